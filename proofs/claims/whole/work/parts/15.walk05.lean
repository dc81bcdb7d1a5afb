/-! ===== java/lang/Math.floorDiv(JJ)J ===== -/
abbrev kd_Jm_floorDiv : mv_Kd := (cd_Jm_floorDiv, 6, "java/lang/Math", "floorDiv", (some .long), 0, 0)
theorem de_Jm_floorDiv_0 : decode cd_Jm_floorDiv 0 = .ok (.lload_n 0, 1) := by decide +kernel
theorem de_Jm_floorDiv_1 : decode cd_Jm_floorDiv 1 = .ok (.lload_n 2, 1) := by decide +kernel
theorem de_Jm_floorDiv_2 : decode cd_Jm_floorDiv 2 = .ok (.ldiv, 1) := by decide +kernel
theorem de_Jm_floorDiv_3 : decode cd_Jm_floorDiv 3 = .ok (.lstore 4, 2) := by decide +kernel
theorem de_Jm_floorDiv_5 : decode cd_Jm_floorDiv 5 = .ok (.lload_n 0, 1) := by decide +kernel
theorem de_Jm_floorDiv_6 : decode cd_Jm_floorDiv 6 = .ok (.lload_n 2, 1) := by decide +kernel
theorem de_Jm_floorDiv_7 : decode cd_Jm_floorDiv 7 = .ok (.lxor, 1) := by decide +kernel
theorem de_Jm_floorDiv_8 : decode cd_Jm_floorDiv 8 = .ok (.lconst 0, 1) := by decide +kernel
theorem de_Jm_floorDiv_9 : decode cd_Jm_floorDiv 9 = .ok (.lcmp, 1) := by decide +kernel
theorem de_Jm_floorDiv_10 : decode cd_Jm_floorDiv 10 = .ok (.ifCond .ge 17, 3) := by decide +kernel
theorem de_Jm_floorDiv_13 : decode cd_Jm_floorDiv 13 = .ok (.lload 4, 2) := by decide +kernel
theorem de_Jm_floorDiv_15 : decode cd_Jm_floorDiv 15 = .ok (.lload_n 2, 1) := by decide +kernel
theorem de_Jm_floorDiv_16 : decode cd_Jm_floorDiv 16 = .ok (.lmul, 1) := by decide +kernel
theorem de_Jm_floorDiv_17 : decode cd_Jm_floorDiv 17 = .ok (.lload_n 0, 1) := by decide +kernel
theorem de_Jm_floorDiv_18 : decode cd_Jm_floorDiv 18 = .ok (.lcmp, 1) := by decide +kernel
theorem de_Jm_floorDiv_19 : decode cd_Jm_floorDiv 19 = .ok (.ifCond .eq 8, 3) := by decide +kernel
theorem de_Jm_floorDiv_22 : decode cd_Jm_floorDiv 22 = .ok (.lload 4, 2) := by decide +kernel
theorem de_Jm_floorDiv_24 : decode cd_Jm_floorDiv 24 = .ok (.lconst 1, 1) := by decide +kernel
theorem de_Jm_floorDiv_25 : decode cd_Jm_floorDiv 25 = .ok (.lsub, 1) := by decide +kernel
theorem de_Jm_floorDiv_26 : decode cd_Jm_floorDiv 26 = .ok (.lreturn, 1) := by decide +kernel
theorem de_Jm_floorDiv_27 : decode cd_Jm_floorDiv 27 = .ok (.lload 4, 2) := by decide +kernel
theorem de_Jm_floorDiv_29 : decode cd_Jm_floorDiv 29 = .ok (.lreturn, 1) := by decide +kernel
def jb_Jm_floorDiv_27 (N : Nat) (M : mv_M) (v4 : Int64) : Option (Int64 × mv_M) :=
  some (v4, M)
def jb_Jm_floorDiv_0 (N : Nat) (M : mv_M) (v0 : Int64) (v2 : Int64) : Option (Int64 × mv_M) :=
  if v2 = 0 then none else
  if 0 ≤ (lg_cmp (v0 ^^^ v2) 0) then (jb_Jm_floorDiv_27 N M (v0 / v2)) else
  if (lg_cmp ((v0 / v2) * v2) v0) = 0 then (jb_Jm_floorDiv_27 N M (v0 / v2)) else
  some (((v0 / v2) - 1), M)
def jf_Jm_floorDiv (N : Nat) (M : mv_M) (v0 : Int64) (v2 : Int64) : Option (Int64 × mv_M) := jb_Jm_floorDiv_0 N M v0 v2
set_option maxHeartbeats 4000000 in
set_option maxRecDepth 100000 in
theorem tb_Jm_floorDiv_27 (l : Launch) (D : va_G) (E : Nat → ClassId) (B : Nat) (sa : (Nat → Nat) × Nat × (Nat → Int32)) (M0 M1 : mv_M) (r : Int64) (N : Nat) (M : mv_M) (v4 : Int64) (hJ : jb_Jm_floorDiv_27 N M v4 = some (r, M1)) : mv_G (xg l D E B sa) kd_Jm_floorDiv M0 M1 (some (.long r)) M 27 [(4, .long v4)] [] := by
  unfold jb_Jm_floorDiv_27 at hJ
  refine mv_lload (pc := 27) de_Jm_floorDiv_27 0 rfl ?_
  exact mv_lret (pc := 29) rfl de_Jm_floorDiv_29 hJ
set_option maxHeartbeats 4000000 in
set_option maxRecDepth 100000 in
theorem tb_Jm_floorDiv_0 (l : Launch) (D : va_G) (E : Nat → ClassId) (B : Nat) (sa : (Nat → Nat) × Nat × (Nat → Int32)) (M0 M1 : mv_M) (r : Int64) (N : Nat) (M : mv_M) (v0 : Int64) (v2 : Int64) (hJ : jb_Jm_floorDiv_0 N M v0 v2 = some (r, M1)) : mv_G (xg l D E B sa) kd_Jm_floorDiv M0 M1 (some (.long r)) M 0 [(0, .long v0), (2, .long v2)] [] := by
  unfold jb_Jm_floorDiv_0 at hJ
  refine mv_lload_n (pc := 0) (i := 0) de_Jm_floorDiv_0 rfl 0 rfl ?_
  refine mv_lload_n (pc := 1) (i := 2) de_Jm_floorDiv_1 rfl 1 rfl ?_
  refine mv_ldiv (pc := 2) de_Jm_floorDiv_2 hJ (fun hc_2 h2 => ?_)
  refine mv_lstore (pc := 3) (lv' := [(4, .long (v0 / v2)), (0, .long v0), (2, .long v2)]) de_Jm_floorDiv_3 (Nat.le_of_ble_eq_true rfl) rfl ?_
  refine mv_lload_n (pc := 5) (i := 0) de_Jm_floorDiv_5 rfl 1 rfl ?_
  refine mv_lload_n (pc := 6) (i := 2) de_Jm_floorDiv_6 rfl 2 rfl ?_
  refine mv_lxor (pc := 7) de_Jm_floorDiv_7 ?_
  refine mv_lconst (pc := 8) (v := 0) de_Jm_floorDiv_8 (by decide) ?_
  refine mv_lcmp (pc := 9) de_Jm_floorDiv_9 ?_
  refine mv_if_ge (pc := 10) (tgt := 27) de_Jm_floorDiv_10 (by decide) h2 (fun hc10 h10 => ?_) (fun hc10 h10 => ?_)
  · exact mv_sub [0] rfl (tb_Jm_floorDiv_27 l D E B sa M0 M1 r N M (v0 / v2) h10)
  · refine mv_lload (pc := 13) de_Jm_floorDiv_13 0 rfl ?_
    refine mv_lload_n (pc := 15) (i := 2) de_Jm_floorDiv_15 rfl 2 rfl ?_
    refine mv_lmul (pc := 16) de_Jm_floorDiv_16 ?_
    refine mv_lload_n (pc := 17) (i := 0) de_Jm_floorDiv_17 rfl 1 rfl ?_
    refine mv_lcmp (pc := 18) de_Jm_floorDiv_18 ?_
    refine mv_if_eq (pc := 19) (tgt := 27) de_Jm_floorDiv_19 (by decide) h10 (fun hc19 h19 => ?_) (fun hc19 h19 => ?_)
    · exact mv_sub [0] rfl (tb_Jm_floorDiv_27 l D E B sa M0 M1 r N M (v0 / v2) h19)
    · refine mv_lload (pc := 22) de_Jm_floorDiv_22 0 rfl ?_
      refine mv_lconst (pc := 24) (v := 1) de_Jm_floorDiv_24 (by decide) ?_
      refine mv_lsub (pc := 25) de_Jm_floorDiv_25 ?_
      exact mv_lret (pc := 26) rfl de_Jm_floorDiv_26 h19
theorem cm_Jm_floorDiv (l : Launch) (D : va_G) (E : Nat → ClassId) (B : Nat) (sa : (Nat → Nat) × Nat × (Nat → Int32)) (N : Nat) (M : mv_M) (v0 : Int64) (v2 : Int64) (r : Int64) (M1 : mv_M) (hJ : jf_Jm_floorDiv N M v0 v2 = some (r, M1)) : mv_Met (xg l D E B sa) yn_Jm_floorDiv cd_Jm_floorDiv 6 (some .long) 0 0 [.long v0, .long v2] M (some (.long r)) M1 :=
  mv_enterF (by decide +kernel) (Nat.le_of_ble_eq_true rfl) (mv_sub (lv := [(0, .long v0), (2, .long v2)]) [0, 1] rfl (tb_Jm_floorDiv_0 l D E B sa M M1 r N M v0 v2 hJ))
/-! ===== PlainLearner$Fractions.rounded(J)J ===== -/
abbrev kd_Fr_rounded : mv_Kd := (cd_Fr_rounded, 4, "PlainLearner$Fractions", "rounded", (some .long), 2, 55)
theorem de_Fr_rounded_0 : decode cd_Fr_rounded 0 = .ok (.lload_n 0, 1) := by decide +kernel
theorem de_Fr_rounded_1 : decode cd_Fr_rounded 1 = .ok (.invokestatic 15, 3) := by decide +kernel
theorem de_Fr_rounded_4 : decode cd_Fr_rounded 4 = .ok (.lstore_n 2, 1) := by decide +kernel
theorem de_Fr_rounded_5 : decode cd_Fr_rounded 5 = .ok (.lload_n 2, 1) := by decide +kernel
theorem de_Fr_rounded_6 : decode cd_Fr_rounded 6 = .ok (.lconst 0, 1) := by decide +kernel
theorem de_Fr_rounded_7 : decode cd_Fr_rounded 7 = .ok (.lcmp, 1) := by decide +kernel
theorem de_Fr_rounded_8 : decode cd_Fr_rounded 8 = .ok (.ifCond .ne 5, 3) := by decide +kernel
theorem de_Fr_rounded_11 : decode cd_Fr_rounded 11 = .ok (.lconst 0, 1) := by decide +kernel
theorem de_Fr_rounded_12 : decode cd_Fr_rounded 12 = .ok (.lreturn, 1) := by decide +kernel
theorem de_Fr_rounded_13 : decode cd_Fr_rounded 13 = .ok (.ldc2_w 33, 3) := by decide +kernel
theorem de_Fr_rounded_16 : decode cd_Fr_rounded 16 = .ok (.lload_n 0, 1) := by decide +kernel
theorem de_Fr_rounded_17 : decode cd_Fr_rounded 17 = .ok (.invokestatic 11, 3) := by decide +kernel
theorem de_Fr_rounded_20 : decode cd_Fr_rounded 20 = .ok (.lmul, 1) := by decide +kernel
theorem de_Fr_rounded_21 : decode cd_Fr_rounded 21 = .ok (.lload_n 2, 1) := by decide +kernel
theorem de_Fr_rounded_22 : decode cd_Fr_rounded 22 = .ok (.ladd, 1) := by decide +kernel
theorem de_Fr_rounded_23 : decode cd_Fr_rounded 23 = .ok (.ldc2_w 35, 3) := by decide +kernel
theorem de_Fr_rounded_26 : decode cd_Fr_rounded 26 = .ok (.lload_n 2, 1) := by decide +kernel
theorem de_Fr_rounded_27 : decode cd_Fr_rounded 27 = .ok (.lmul, 1) := by decide +kernel
theorem de_Fr_rounded_28 : decode cd_Fr_rounded 28 = .ok (.invokestatic 37, 3) := by decide +kernel
theorem de_Fr_rounded_31 : decode cd_Fr_rounded 31 = .ok (.ldc2_w 42, 3) := by decide +kernel
theorem de_Fr_rounded_34 : decode cd_Fr_rounded 34 = .ok (.invokestatic 44, 3) := by decide +kernel
theorem de_Fr_rounded_37 : decode cd_Fr_rounded 37 = .ok (.lreturn, 1) := by decide +kernel
def jb_Fr_rounded_0 (N : Nat) (M : mv_M) (v0 : Int64) : Option (Int64 × mv_M) :=
  mj_call (jf_Fr_bottomOf N M v0) fun r1 Mm1 =>
  if (lg_cmp r1 0) = 0 then (some (0, Mm1)) else
  mj_call (jf_Fr_topOf N Mm1 v0) fun r17 Mm17 =>
  mj_call (jf_Jm_floorDiv N Mm17 ((8192 * r17) + r1) (2 * r1)) fun r28 Mm28 =>
  mj_call (jf_Fr_of N Mm28 r28 4096) fun r34 Mm34 =>
  some (r34, Mm34)
def jf_Fr_rounded (N : Nat) (M : mv_M) (v0 : Int64) : Option (Int64 × mv_M) := jb_Fr_rounded_0 N M v0
set_option maxHeartbeats 4000000 in
set_option maxRecDepth 100000 in
theorem tb_Fr_rounded_0 (l : Launch) (D : va_G) (E : Nat → ClassId) (B : Nat) (sa : (Nat → Nat) × Nat × (Nat → Int32)) (M0 M1 : mv_M) (r : Int64) (N : Nat) (M : mv_M) (v0 : Int64) (hJ : jb_Fr_rounded_0 N M v0 = some (r, M1)) : mv_G (xg l D E B sa) kd_Fr_rounded M0 M1 (some (.long r)) M 0 [(0, .long v0)] [] := by
  unfold jb_Fr_rounded_0 at hJ
  refine mv_lload_n (pc := 0) (i := 0) de_Fr_rounded_0 rfl 0 rfl ?_
  obtain ⟨r1, Mm1, hz1, h1⟩ := mj_callE hJ
  refine mv_callS (pc := 1) (n := 1) (av := [.long v0]) (rest := []) de_Fr_rounded_1 (cm_Fr_bottomOf l D E B sa N M v0 _ _ hz1) wt_2_195 wt_2_196 wt_1_3 wt_2_197 ⟨by decide, by decide, by decide +kernel⟩ rfl ⟨Nat.le_of_ble_eq_true rfl, Nat.le_of_ble_eq_true rfl⟩ (Nat.le_of_ble_eq_true rfl) rfl ?_
  refine mv_lstore_n (pc := 4) (i := 2) (lv' := [(2, .long r1), (0, .long v0)]) de_Fr_rounded_4 rfl (Nat.le_of_ble_eq_true rfl) rfl ?_
  refine mv_lload_n (pc := 5) (i := 2) de_Fr_rounded_5 rfl 0 rfl ?_
  refine mv_lconst (pc := 6) (v := 0) de_Fr_rounded_6 (by decide) ?_
  refine mv_lcmp (pc := 7) de_Fr_rounded_7 ?_
  refine mv_if_ne (pc := 8) (tgt := 13) de_Fr_rounded_8 (by decide) h1 (fun hc8 h8 => ?_) (fun hc8 h8 => ?_)
  · refine mv_lconst (pc := 11) (v := 0) de_Fr_rounded_11 (by decide) ?_
    exact mv_lret (pc := 12) rfl de_Fr_rounded_12 h8
  · refine mv_ldc2 (pc := 13) de_Fr_rounded_13 wt_3_65 ?_
    refine mv_lload_n (pc := 16) (i := 0) de_Fr_rounded_16 rfl 1 rfl ?_
    obtain ⟨r17, Mm17, hz17, h17⟩ := mj_callE h8
    refine mv_callS (pc := 17) (n := 1) (av := [.long v0]) (rest := [.long 8192]) de_Fr_rounded_17 (cm_Fr_topOf l D E B sa N Mm1 v0 _ _ hz17) wt_2_192 wt_2_193 wt_1_3 wt_2_194 ⟨by decide, by decide, by decide +kernel⟩ rfl ⟨Nat.le_of_ble_eq_true rfl, Nat.le_of_ble_eq_true rfl⟩ (Nat.le_of_ble_eq_true rfl) rfl ?_
    refine mv_lmul (pc := 20) de_Fr_rounded_20 ?_
    refine mv_lload_n (pc := 21) (i := 2) de_Fr_rounded_21 rfl 0 rfl ?_
    refine mv_ladd (pc := 22) de_Fr_rounded_22 ?_
    refine mv_ldc2 (pc := 23) de_Fr_rounded_23 wt_3_66 ?_
    refine mv_lload_n (pc := 26) (i := 2) de_Fr_rounded_26 rfl 0 rfl ?_
    refine mv_lmul (pc := 27) de_Fr_rounded_27 ?_
    obtain ⟨r28, Mm28, hz28, h28⟩ := mj_callE h17
    refine mv_callS (pc := 28) (n := 2) (av := [.long ((8192 * r17) + r1), .long (2 * r1)]) (rest := []) de_Fr_rounded_28 (cm_Jm_floorDiv l D E B sa N Mm17 ((8192 * r17) + r1) (2 * r1) _ _ hz28) wt_3_67 wt_3_68 wt_1_12 wt_3_69 ⟨by decide, by decide, by decide +kernel⟩ rfl ⟨Nat.le_of_ble_eq_true rfl, Nat.le_of_ble_eq_true rfl⟩ (Nat.le_of_ble_eq_true rfl) rfl ?_
    refine mv_ldc2 (pc := 31) de_Fr_rounded_31 wt_3_70 ?_
    obtain ⟨r34, Mm34, hz34, h34⟩ := mj_callE h28
    refine mv_callS (pc := 34) (n := 2) (av := [.long r28, .long 4096]) (rest := []) de_Fr_rounded_34 (cm_Fr_of l D E B sa N Mm28 r28 4096 _ _ hz34) wt_3_71 wt_1_35 wt_1_3 wt_1_36 ⟨by decide, by decide, by decide +kernel⟩ rfl ⟨Nat.le_of_ble_eq_true rfl, Nat.le_of_ble_eq_true rfl⟩ (Nat.le_of_ble_eq_true rfl) rfl ?_
    exact mv_lret (pc := 37) rfl de_Fr_rounded_37 h34
theorem cm_Fr_rounded (l : Launch) (D : va_G) (E : Nat → ClassId) (B : Nat) (sa : (Nat → Nat) × Nat × (Nat → Int32)) (N : Nat) (M : mv_M) (v0 : Int64) (r : Int64) (M1 : mv_M) (hJ : jf_Fr_rounded N M v0 = some (r, M1)) : mv_Met (xg l D E B sa) yn_Fr_rounded cd_Fr_rounded 4 (some .long) 2 55 [.long v0] M (some (.long r)) M1 :=
  mv_enter (by decide) (Nat.le_of_ble_eq_true rfl) (mv_sub (lv := [(0, .long v0)]) [0] rfl (tb_Fr_rounded_0 l D E B sa M M1 r N M v0 hJ))
/-! ===== PlainLearner$Tape.moveParameters()V ===== -/
abbrev kd_Tp_moveParameters : mv_Kd := (cd_Tp_moveParameters, 6, "PlainLearner$Tape", "moveParameters", none, 3, 78)
theorem de_Tp_moveParameters_0 : decode cd_Tp_moveParameters 0 = .ok (.iconst 0, 1) := by decide +kernel
theorem de_Tp_moveParameters_1 : decode cd_Tp_moveParameters 1 = .ok (.istore_n 1, 1) := by decide +kernel
theorem de_Tp_moveParameters_2 : decode cd_Tp_moveParameters 2 = .ok (.iload_n 1, 1) := by decide +kernel
theorem de_Tp_moveParameters_3 : decode cd_Tp_moveParameters 3 = .ok (.aload_n 0, 1) := by decide +kernel
theorem de_Tp_moveParameters_4 : decode cd_Tp_moveParameters 4 = .ok (.getfield 29, 3) := by decide +kernel
theorem de_Tp_moveParameters_7 : decode cd_Tp_moveParameters 7 = .ok (.if_icmp .ge 80, 3) := by decide +kernel
theorem de_Tp_moveParameters_10 : decode cd_Tp_moveParameters 10 = .ok (.aload_n 0, 1) := by decide +kernel
theorem de_Tp_moveParameters_11 : decode cd_Tp_moveParameters 11 = .ok (.getfield 13, 3) := by decide +kernel
theorem de_Tp_moveParameters_14 : decode cd_Tp_moveParameters 14 = .ok (.iload_n 1, 1) := by decide +kernel
theorem de_Tp_moveParameters_15 : decode cd_Tp_moveParameters 15 = .ok (.aaload, 1) := by decide +kernel
theorem de_Tp_moveParameters_16 : decode cd_Tp_moveParameters 16 = .ok (.astore_n 2, 1) := by decide +kernel
theorem de_Tp_moveParameters_17 : decode cd_Tp_moveParameters 17 = .ok (.iconst 0, 1) := by decide +kernel
theorem de_Tp_moveParameters_18 : decode cd_Tp_moveParameters 18 = .ok (.istore_n 3, 1) := by decide +kernel
theorem de_Tp_moveParameters_19 : decode cd_Tp_moveParameters 19 = .ok (.aload_n 2, 1) := by decide +kernel
theorem de_Tp_moveParameters_20 : decode cd_Tp_moveParameters 20 = .ok (.getfield 96, 3) := by decide +kernel
theorem de_Tp_moveParameters_23 : decode cd_Tp_moveParameters 23 = .ok (.ifCond .eq 58, 3) := by decide +kernel
theorem de_Tp_moveParameters_26 : decode cd_Tp_moveParameters 26 = .ok (.iload_n 3, 1) := by decide +kernel
theorem de_Tp_moveParameters_27 : decode cd_Tp_moveParameters 27 = .ok (.aload_n 2, 1) := by decide +kernel
theorem de_Tp_moveParameters_28 : decode cd_Tp_moveParameters 28 = .ok (.getfield 61, 3) := by decide +kernel
theorem de_Tp_moveParameters_31 : decode cd_Tp_moveParameters 31 = .ok (.getfield 74, 3) := by decide +kernel
theorem de_Tp_moveParameters_34 : decode cd_Tp_moveParameters 34 = .ok (.if_icmp .ge 47, 3) := by decide +kernel
theorem de_Tp_moveParameters_37 : decode cd_Tp_moveParameters 37 = .ok (.aload_n 0, 1) := by decide +kernel
theorem de_Tp_moveParameters_38 : decode cd_Tp_moveParameters 38 = .ok (.getfield 25, 3) := by decide +kernel
theorem de_Tp_moveParameters_41 : decode cd_Tp_moveParameters 41 = .ok (.aload_n 2, 1) := by decide +kernel
theorem de_Tp_moveParameters_42 : decode cd_Tp_moveParameters 42 = .ok (.getfield 107, 3) := by decide +kernel
theorem de_Tp_moveParameters_45 : decode cd_Tp_moveParameters 45 = .ok (.iload_n 3, 1) := by decide +kernel
theorem de_Tp_moveParameters_46 : decode cd_Tp_moveParameters 46 = .ok (.laload, 1) := by decide +kernel
theorem de_Tp_moveParameters_47 : decode cd_Tp_moveParameters 47 = .ok (.invokestatic 156, 3) := by decide +kernel
theorem de_Tp_moveParameters_50 : decode cd_Tp_moveParameters 50 = .ok (.invokestatic 159, 3) := by decide +kernel
theorem de_Tp_moveParameters_53 : decode cd_Tp_moveParameters 53 = .ok (.lstore 4, 2) := by decide +kernel
theorem de_Tp_moveParameters_55 : decode cd_Tp_moveParameters 55 = .ok (.aload_n 2, 1) := by decide +kernel
theorem de_Tp_moveParameters_56 : decode cd_Tp_moveParameters 56 = .ok (.getfield 83, 3) := by decide +kernel
theorem de_Tp_moveParameters_59 : decode cd_Tp_moveParameters 59 = .ok (.iload_n 3, 1) := by decide +kernel
theorem de_Tp_moveParameters_60 : decode cd_Tp_moveParameters 60 = .ok (.aload_n 2, 1) := by decide +kernel
theorem de_Tp_moveParameters_61 : decode cd_Tp_moveParameters 61 = .ok (.getfield 83, 3) := by decide +kernel
theorem de_Tp_moveParameters_64 : decode cd_Tp_moveParameters 64 = .ok (.iload_n 3, 1) := by decide +kernel
theorem de_Tp_moveParameters_65 : decode cd_Tp_moveParameters 65 = .ok (.laload, 1) := by decide +kernel
theorem de_Tp_moveParameters_66 : decode cd_Tp_moveParameters 66 = .ok (.lload 4, 2) := by decide +kernel
theorem de_Tp_moveParameters_68 : decode cd_Tp_moveParameters 68 = .ok (.invokestatic 163, 3) := by decide +kernel
theorem de_Tp_moveParameters_71 : decode cd_Tp_moveParameters 71 = .ok (.invokestatic 166, 3) := by decide +kernel
theorem de_Tp_moveParameters_74 : decode cd_Tp_moveParameters 74 = .ok (.lastore, 1) := by decide +kernel
theorem de_Tp_moveParameters_75 : decode cd_Tp_moveParameters 75 = .ok (.iinc 3 1, 3) := by decide +kernel
theorem de_Tp_moveParameters_78 : decode cd_Tp_moveParameters 78 = .ok (.goto (-59), 3) := by decide +kernel
theorem de_Tp_moveParameters_81 : decode cd_Tp_moveParameters 81 = .ok (.iinc 1 1, 3) := by decide +kernel
theorem de_Tp_moveParameters_84 : decode cd_Tp_moveParameters 84 = .ok (.goto (-82), 3) := by decide +kernel
theorem de_Tp_moveParameters_87 : decode cd_Tp_moveParameters 87 = .ok (.aload_n 0, 1) := by decide +kernel
theorem de_Tp_moveParameters_88 : decode cd_Tp_moveParameters 88 = .ok (.iconst 0, 1) := by decide +kernel
theorem de_Tp_moveParameters_89 : decode cd_Tp_moveParameters 89 = .ok (.putfield 87, 3) := by decide +kernel
theorem de_Tp_moveParameters_92 : decode cd_Tp_moveParameters 92 = .ok (.return_, 1) := by decide +kernel
def jb_Tp_moveParameters_81 (N : Nat) (k2 : mv_M → Nat → Int32 → Option (Unit × mv_M)) (M : mv_M) (v0 : Nat) (v1 : Int32) : Option (Unit × mv_M) :=
  k2 M v0 (v1 + 1)
def jb_Tp_moveParameters_19 (N : Nat) (k2 : mv_M → Nat → Int32 → Option (Unit × mv_M)) : Nat → mv_M → Nat → Int32 → Option Nat → Int32 → Option (Unit × mv_M)
  | 0, _, _, _, _, _ => none
  | n + 1, M, v0, v1, v2, v3 =>
    Option.bind v2 fun a20 =>
    Option.bind (mj_getI M a20 2 11) fun x20 =>
    if x20 = 0 then (jb_Tp_moveParameters_81 N k2 M v0 v1) else
    Option.bind (mj_getR M a20 2 0) fun x28 =>
    Option.bind x28 fun a31 =>
    Option.bind (mj_getI M a31 5 4) fun x31 =>
    if x31 ≤ v3 then (jb_Tp_moveParameters_81 N k2 M v0 v1) else
    Option.bind (mj_getL M v0 7 2) fun x38 =>
    Option.bind (mj_getR M a20 2 10) fun x42 =>
    Option.bind x42 fun a46 =>
    Option.bind (mj_lld M a46 1 v3) fun x46 =>
    mj_call (jf_Fr_times N M x38 x46) fun r47 Mm47 =>
    mj_call (jf_Fr_minus N Mm47 r47) fun r50 Mm50 =>
    Option.bind (mj_getR Mm50 a20 2 9) fun x56 =>
    Option.bind (mj_getR Mm50 a20 2 9) fun x61 =>
    Option.bind x61 fun a65 =>
    Option.bind (mj_lld Mm50 a65 1 v3) fun x65 =>
    mj_call (jf_Fr_add N Mm50 x65 r50) fun r68 Mm68 =>
    mj_call (jf_Fr_rounded N Mm68 r68) fun r71 Mm71 =>
    Option.bind x56 fun a74 =>
    Option.bind (mj_lst Mm71 a74 1 v3 r71) fun Mm74 =>
    jb_Tp_moveParameters_19 N k2 n Mm74 v0 v1 (some a20) (v3 + 1)
def jb_Tp_moveParameters_2 (N : Nat) : Nat → mv_M → Nat → Int32 → Option (Unit × mv_M)
  | 0, _, _, _ => none
  | n + 1, M, v0, v1 =>
    Option.bind (mj_getI M v0 7 1) fun x4 =>
    if x4 ≤ v1 then (Option.bind (mj_put M v0 7 3 (.int 0)) fun Mm89 =>
    some ((), Mm89)) else
    Option.bind (mj_getR M v0 7 0) fun x11 =>
    Option.bind x11 fun a15 =>
    Option.bind (mj_rld M a15 3 v1) fun x15 =>
    jb_Tp_moveParameters_19 N (jb_Tp_moveParameters_2 N n) N M v0 v1 x15 0
def jb_Tp_moveParameters_0 (N : Nat) (M : mv_M) (v0 : Nat) : Option (Unit × mv_M) :=
  jb_Tp_moveParameters_2 N N M v0 0
def jf_Tp_moveParameters (N : Nat) (M : mv_M) (v0 : Nat) : Option (Unit × mv_M) := jb_Tp_moveParameters_0 N M v0
set_option maxHeartbeats 4000000 in
set_option maxRecDepth 100000 in
theorem tb_Tp_moveParameters_81 (l : Launch) (D : va_G) (E : Nat → ClassId) (B : Nat) (sa : (Nat → Nat) × Nat × (Nat → Int32)) (M0 M1 : mv_M) (r : Unit) (N : Nat) (k2 : mv_M → Nat → Int32 → Option (Unit × mv_M)) (hk2 : ∀ (M : mv_M) (v0 : Nat) (v1 : Int32), k2 M v0 v1 = some (r, M1) → mv_G (xg l D E B sa) kd_Tp_moveParameters M0 M1 none M 2 [(0, va_rf (some v0)), (1, .int v1)] []) (M : mv_M) (v0 : Nat) (v1 : Int32) (hJ : jb_Tp_moveParameters_81 N k2 M v0 v1 = some (r, M1)) : mv_G (xg l D E B sa) kd_Tp_moveParameters M0 M1 none M 81 [(0, va_rf (some v0)), (1, .int v1)] [] := by
  unfold jb_Tp_moveParameters_81 at hJ
  refine mv_iinc (pc := 81) (v := (v1 + 1)) (lv' := [(1, .int (v1 + 1)), (0, va_rf (some v0))]) de_Tp_moveParameters_81 1 rfl rfl (Nat.le_of_ble_eq_true rfl) rfl ?_
  refine mv_goto (pc := 84) (tgt := 2) de_Tp_moveParameters_84 (by decide) ?_
  exact mv_sub [1, 0] rfl (hk2 M v0 (v1 + 1) hJ)
set_option maxHeartbeats 4000000 in
set_option maxRecDepth 100000 in
theorem tb_Tp_moveParameters_19 (l : Launch) (D : va_G) (E : Nat → ClassId) (B : Nat) (sa : (Nat → Nat) × Nat × (Nat → Int32)) (M0 M1 : mv_M) (r : Unit) (N : Nat) (k2 : mv_M → Nat → Int32 → Option (Unit × mv_M)) (hk2 : ∀ (M : mv_M) (v0 : Nat) (v1 : Int32), k2 M v0 v1 = some (r, M1) → mv_G (xg l D E B sa) kd_Tp_moveParameters M0 M1 none M 2 [(0, va_rf (some v0)), (1, .int v1)] []) : ∀ (n : Nat) (M : mv_M) (v0 : Nat) (v1 : Int32) (v2 : Option Nat) (v3 : Int32) (hJ : jb_Tp_moveParameters_19 N k2 n M v0 v1 v2 v3 = some (r, M1)), mv_G (xg l D E B sa) kd_Tp_moveParameters M0 M1 none M 19 [(0, va_rf (some v0)), (1, .int v1), (2, va_rf v2), (3, .int v3)] [] := by
  intro n
  induction n with
  | zero => intro M v0 v1 v2 v3 hJ; cases hJ
  | succ n ih =>
    intro M v0 v1 v2 v3 hJ
    rw [jb_Tp_moveParameters_19] at hJ
    refine mv_aload_n (pc := 19) (i := 2) de_Tp_moveParameters_19 rfl 2 rfl ?_
    obtain ⟨a20, ha, h20a⟩ := mj_bindE hJ
    subst ha
    refine mv_getI (pc := 20) (f := 11) (kc_2 l D E B sa) (Nat.le_of_ble_eq_true rfl) wt_1_238 de_Tp_moveParameters_20 h20a (fun x20 e20 h20 => ?_)
    refine mv_if_eq (pc := 23) (tgt := 81) de_Tp_moveParameters_23 (by decide) h20 (fun hc23 h23 => ?_) (fun hc23 h23 => ?_)
    · exact mv_sub [0, 1] rfl (tb_Tp_moveParameters_81 l D E B sa M0 M1 r N k2 hk2 M v0 v1 h23)
    · refine mv_iload_n (pc := 26) (i := 3) de_Tp_moveParameters_26 rfl 3 rfl ?_
      refine mv_aload_n (pc := 27) (i := 2) de_Tp_moveParameters_27 rfl 2 rfl ?_
      refine mv_getR (pc := 28) (f := 0) (kc_2 l D E B sa) (Nat.le_of_ble_eq_true rfl) wt_1_221 de_Tp_moveParameters_28 h23 (fun x28 e28 h28 => ?_)
      obtain ⟨a31, ha, h31a⟩ := mj_bindE h28
      subst ha
      refine mv_getI (pc := 31) (f := 4) (kc_5 l D E B sa) (Nat.le_of_ble_eq_true rfl) wt_1_192 de_Tp_moveParameters_31 h31a (fun x31 e31 h31 => ?_)
      refine mv_icmp_ge (pc := 34) (tgt := 81) de_Tp_moveParameters_34 (by decide) h31 (fun hc34 h34 => ?_) (fun hc34 h34 => ?_)
      · exact mv_sub [0, 1] rfl (tb_Tp_moveParameters_81 l D E B sa M0 M1 r N k2 hk2 M v0 v1 h34)
      · refine mv_aload_n (pc := 37) (i := 0) de_Tp_moveParameters_37 rfl 0 rfl ?_
        refine mv_getL (pc := 38) (f := 2) (kc_7 l D E B sa) (Nat.le_of_ble_eq_true rfl) wt_1_48 de_Tp_moveParameters_38 h34 (fun x38 e38 h38 => ?_)
        refine mv_aload_n (pc := 41) (i := 2) de_Tp_moveParameters_41 rfl 2 rfl ?_
        refine mv_getR (pc := 42) (f := 10) (kc_2 l D E B sa) (Nat.le_of_ble_eq_true rfl) wt_1_237 de_Tp_moveParameters_42 h38 (fun x42 e42 h42 => ?_)
        refine mv_iload_n (pc := 45) (i := 3) de_Tp_moveParameters_45 rfl 3 rfl ?_
        obtain ⟨a46, ha, h46a⟩ := mj_bindE h42
        subst ha
        refine mv_lald (pc := 46) (t := 1) rfl de_Tp_moveParameters_46 h46a (fun x46 e46 h46 => ?_)
        obtain ⟨r47, Mm47, hz47, h47⟩ := mj_callE h46
        refine mv_callS (pc := 47) (n := 2) (av := [.long x38, .long x46]) (rest := []) de_Tp_moveParameters_47 (cm_Fr_times l D E B sa N M x38 x46 _ _ hz47) wt_3_59 wt_2_221 wt_1_3 wt_2_222 ⟨by decide, by decide, by decide +kernel⟩ rfl ⟨Nat.le_of_ble_eq_true rfl, Nat.le_of_ble_eq_true rfl⟩ (Nat.le_of_ble_eq_true rfl) rfl ?_
        obtain ⟨r50, Mm50, hz50, h50⟩ := mj_callE h47
        refine mv_callS (pc := 50) (n := 1) (av := [.long r47]) (rest := []) de_Tp_moveParameters_50 (cm_Fr_minus l D E B sa N Mm47 r47 _ _ hz50) wt_3_60 wt_2_229 wt_1_3 wt_2_230 ⟨by decide, by decide, by decide +kernel⟩ rfl ⟨Nat.le_of_ble_eq_true rfl, Nat.le_of_ble_eq_true rfl⟩ (Nat.le_of_ble_eq_true rfl) rfl ?_
        refine mv_lstore (pc := 53) (lv' := [(4, .long r50), (0, va_rf (some v0)), (1, .int v1), (2, va_rf (some a20)), (3, .int v3)]) de_Tp_moveParameters_53 (Nat.le_of_ble_eq_true rfl) rfl ?_
        refine mv_aload_n (pc := 55) (i := 2) de_Tp_moveParameters_55 rfl 3 rfl ?_
        refine mv_getR (pc := 56) (f := 9) (kc_2 l D E B sa) (Nat.le_of_ble_eq_true rfl) wt_1_234 de_Tp_moveParameters_56 h50 (fun x56 e56 h56 => ?_)
        refine mv_iload_n (pc := 59) (i := 3) de_Tp_moveParameters_59 rfl 4 rfl ?_
        refine mv_aload_n (pc := 60) (i := 2) de_Tp_moveParameters_60 rfl 3 rfl ?_
        refine mv_getR (pc := 61) (f := 9) (kc_2 l D E B sa) (Nat.le_of_ble_eq_true rfl) wt_1_234 de_Tp_moveParameters_61 h56 (fun x61 e61 h61 => ?_)
        refine mv_iload_n (pc := 64) (i := 3) de_Tp_moveParameters_64 rfl 4 rfl ?_
        obtain ⟨a65, ha, h65a⟩ := mj_bindE h61
        subst ha
        refine mv_lald (pc := 65) (t := 1) rfl de_Tp_moveParameters_65 h65a (fun x65 e65 h65 => ?_)
        refine mv_lload (pc := 66) de_Tp_moveParameters_66 0 rfl ?_
        obtain ⟨r68, Mm68, hz68, h68⟩ := mj_callE h65
        refine mv_callS (pc := 68) (n := 2) (av := [.long x65, .long r50]) (rest := [.int v3, va_rf x56]) de_Tp_moveParameters_68 (cm_Fr_add l D E B sa N Mm50 x65 r50 _ _ hz68) wt_3_61 wt_2_218 wt_1_3 wt_2_219 ⟨by decide, by decide, by decide +kernel⟩ rfl ⟨Nat.le_of_ble_eq_true rfl, Nat.le_of_ble_eq_true rfl⟩ (by simp [mv_cat, mv_cI, mv_cJ]) rfl ?_
        obtain ⟨r71, Mm71, hz71, h71⟩ := mj_callE h68
        refine mv_callS (pc := 71) (n := 1) (av := [.long r68]) (rest := [.int v3, va_rf x56]) de_Tp_moveParameters_71 (cm_Fr_rounded l D E B sa N Mm68 r68 _ _ hz71) wt_3_62 wt_3_63 wt_1_3 wt_3_64 ⟨by decide, by decide, by decide +kernel⟩ rfl ⟨Nat.le_of_ble_eq_true rfl, Nat.le_of_ble_eq_true rfl⟩ (by simp [mv_cat, mv_cI, mv_cJ]) rfl ?_
        obtain ⟨a74, ha, h74a⟩ := mj_bindE h71
        subst ha
        refine mv_last (pc := 74) (t := 1) rfl de_Tp_moveParameters_74 h74a (fun Mm74 e74 h74 => ?_)
        refine mv_iinc (pc := 75) (v := (v3 + 1)) (lv' := [(3, .int (v3 + 1)), (4, .long r50), (0, va_rf (some v0)), (1, .int v1), (2, va_rf (some a20))]) de_Tp_moveParameters_75 4 rfl rfl (Nat.le_of_ble_eq_true rfl) rfl ?_
        refine mv_goto (pc := 78) (tgt := 19) de_Tp_moveParameters_78 (by decide) ?_
        exact mv_sub [2, 3, 4, 0] rfl (ih Mm74 v0 v1 (some a20) (v3 + 1) h74)
set_option maxHeartbeats 4000000 in
set_option maxRecDepth 100000 in
theorem tb_Tp_moveParameters_2 (l : Launch) (D : va_G) (E : Nat → ClassId) (B : Nat) (sa : (Nat → Nat) × Nat × (Nat → Int32)) (M0 M1 : mv_M) (r : Unit) (N : Nat) : ∀ (n : Nat) (M : mv_M) (v0 : Nat) (v1 : Int32) (hJ : jb_Tp_moveParameters_2 N n M v0 v1 = some (r, M1)), mv_G (xg l D E B sa) kd_Tp_moveParameters M0 M1 none M 2 [(0, va_rf (some v0)), (1, .int v1)] [] := by
  intro n
  induction n with
  | zero => intro M v0 v1 hJ; cases hJ
  | succ n ih =>
    intro M v0 v1 hJ
    rw [jb_Tp_moveParameters_2] at hJ
    refine mv_iload_n (pc := 2) (i := 1) de_Tp_moveParameters_2 rfl 1 rfl ?_
    refine mv_aload_n (pc := 3) (i := 0) de_Tp_moveParameters_3 rfl 0 rfl ?_
    refine mv_getI (pc := 4) (f := 1) (kc_7 l D E B sa) (Nat.le_of_ble_eq_true rfl) wt_1_46 de_Tp_moveParameters_4 hJ (fun x4 e4 h4 => ?_)
    refine mv_icmp_ge (pc := 7) (tgt := 87) de_Tp_moveParameters_7 (by decide) h4 (fun hc7 h7 => ?_) (fun hc7 h7 => ?_)
    · refine mv_aload_n (pc := 87) (i := 0) de_Tp_moveParameters_87 rfl 0 rfl ?_
      refine mv_iconst (pc := 88) (v := 0) de_Tp_moveParameters_88 (by decide) ?_
      refine mv_put (pc := 89) (f := 3) (kc_7 l D E B sa) (Nat.le_of_ble_eq_true rfl) wt_1_50 rfl rfl rfl de_Tp_moveParameters_89 h7 (fun Mm89 e89 h89 => ?_)
      exact mv_vret (pc := 92) rfl de_Tp_moveParameters_92 h89
    · refine mv_aload_n (pc := 10) (i := 0) de_Tp_moveParameters_10 rfl 0 rfl ?_
      refine mv_getR (pc := 11) (f := 0) (kc_7 l D E B sa) (Nat.le_of_ble_eq_true rfl) wt_1_45 de_Tp_moveParameters_11 h7 (fun x11 e11 h11 => ?_)
      refine mv_iload_n (pc := 14) (i := 1) de_Tp_moveParameters_14 rfl 1 rfl ?_
      obtain ⟨a15, ha, h15a⟩ := mj_bindE h11
      subst ha
      refine mv_aald (pc := 15) (t := 3) rfl de_Tp_moveParameters_15 h15a (fun x15 e15 h15 => ?_)
      refine mv_astore_n (pc := 16) (i := 2) (lv' := [(2, va_rf x15), (0, va_rf (some v0)), (1, .int v1)]) de_Tp_moveParameters_16 rfl (Nat.le_of_ble_eq_true rfl) rfl ?_
      refine mv_iconst (pc := 17) (v := 0) de_Tp_moveParameters_17 (by decide) ?_
      refine mv_istore_n (pc := 18) (i := 3) (lv' := [(3, .int 0), (2, va_rf x15), (0, va_rf (some v0)), (1, .int v1)]) de_Tp_moveParameters_18 rfl (Nat.le_of_ble_eq_true rfl) (by simp [List.filter, mv_cat]) ?_
      exact mv_sub [2, 3, 1, 0] rfl (tb_Tp_moveParameters_19 l D E B sa M0 M1 r N (jb_Tp_moveParameters_2 N n) ih N M v0 v1 x15 0 h15)
set_option maxHeartbeats 4000000 in
set_option maxRecDepth 100000 in
theorem tb_Tp_moveParameters_0 (l : Launch) (D : va_G) (E : Nat → ClassId) (B : Nat) (sa : (Nat → Nat) × Nat × (Nat → Int32)) (M0 M1 : mv_M) (r : Unit) (N : Nat) (M : mv_M) (v0 : Nat) (hJ : jb_Tp_moveParameters_0 N M v0 = some (r, M1)) : mv_G (xg l D E B sa) kd_Tp_moveParameters M0 M1 none M 0 [(0, va_rf (some v0))] [] := by
  unfold jb_Tp_moveParameters_0 at hJ
  refine mv_iconst (pc := 0) (v := 0) de_Tp_moveParameters_0 (by decide) ?_
  refine mv_istore_n (pc := 1) (i := 1) (lv' := [(1, .int 0), (0, va_rf (some v0))]) de_Tp_moveParameters_1 rfl (Nat.le_of_ble_eq_true rfl) rfl ?_
  exact mv_sub [1, 0] rfl (tb_Tp_moveParameters_2 l D E B sa M0 M1 r N N M v0 0 hJ)
theorem cm_Tp_moveParameters (l : Launch) (D : va_G) (E : Nat → ClassId) (B : Nat) (sa : (Nat → Nat) × Nat × (Nat → Int32)) (N : Nat) (M : mv_M) (v0 : Nat) (r : Unit) (M1 : mv_M) (hJ : jf_Tp_moveParameters N M v0 = some (r, M1)) : mv_Met (xg l D E B sa) yn_Tp_moveParameters cd_Tp_moveParameters 6 none 3 78 [va_rf (some v0)] M none M1 :=
  mv_enter (by decide) (Nat.le_of_ble_eq_true rfl) (mv_sub (lv := [(0, va_rf (some v0))]) [0] rfl (tb_Tp_moveParameters_0 l D E B sa M M1 r N M v0 hJ))
/-! ===== PlainLearner$Tape.countWildCells()I ===== -/
abbrev kd_Tp_countWildCells : mv_Kd := (cd_Tp_countWildCells, 5, "PlainLearner$Tape", "countWildCells", (some .int), 0, 0)
theorem de_Tp_countWildCells_0 : decode cd_Tp_countWildCells 0 = .ok (.iconst 0, 1) := by decide +kernel
theorem de_Tp_countWildCells_1 : decode cd_Tp_countWildCells 1 = .ok (.istore_n 1, 1) := by decide +kernel
theorem de_Tp_countWildCells_2 : decode cd_Tp_countWildCells 2 = .ok (.iconst 0, 1) := by decide +kernel
theorem de_Tp_countWildCells_3 : decode cd_Tp_countWildCells 3 = .ok (.istore_n 2, 1) := by decide +kernel
theorem de_Tp_countWildCells_4 : decode cd_Tp_countWildCells 4 = .ok (.iload_n 2, 1) := by decide +kernel
theorem de_Tp_countWildCells_5 : decode cd_Tp_countWildCells 5 = .ok (.aload_n 0, 1) := by decide +kernel
theorem de_Tp_countWildCells_6 : decode cd_Tp_countWildCells 6 = .ok (.getfield 29, 3) := by decide +kernel
theorem de_Tp_countWildCells_9 : decode cd_Tp_countWildCells 9 = .ok (.if_icmp .ge 59, 3) := by decide +kernel
theorem de_Tp_countWildCells_12 : decode cd_Tp_countWildCells 12 = .ok (.aload_n 0, 1) := by decide +kernel
theorem de_Tp_countWildCells_13 : decode cd_Tp_countWildCells 13 = .ok (.getfield 13, 3) := by decide +kernel
theorem de_Tp_countWildCells_16 : decode cd_Tp_countWildCells 16 = .ok (.iload_n 2, 1) := by decide +kernel
theorem de_Tp_countWildCells_17 : decode cd_Tp_countWildCells 17 = .ok (.aaload, 1) := by decide +kernel
theorem de_Tp_countWildCells_18 : decode cd_Tp_countWildCells 18 = .ok (.astore_n 3, 1) := by decide +kernel
theorem de_Tp_countWildCells_19 : decode cd_Tp_countWildCells 19 = .ok (.iconst 0, 1) := by decide +kernel
theorem de_Tp_countWildCells_20 : decode cd_Tp_countWildCells 20 = .ok (.istore 4, 2) := by decide +kernel
theorem de_Tp_countWildCells_22 : decode cd_Tp_countWildCells 22 = .ok (.aload_n 3, 1) := by decide +kernel
theorem de_Tp_countWildCells_23 : decode cd_Tp_countWildCells 23 = .ok (.getfield 96, 3) := by decide +kernel
theorem de_Tp_countWildCells_26 : decode cd_Tp_countWildCells 26 = .ok (.ifCond .eq 36, 3) := by decide +kernel
theorem de_Tp_countWildCells_29 : decode cd_Tp_countWildCells 29 = .ok (.iload 4, 2) := by decide +kernel
theorem de_Tp_countWildCells_31 : decode cd_Tp_countWildCells 31 = .ok (.aload_n 3, 1) := by decide +kernel
theorem de_Tp_countWildCells_32 : decode cd_Tp_countWildCells 32 = .ok (.getfield 61, 3) := by decide +kernel
theorem de_Tp_countWildCells_35 : decode cd_Tp_countWildCells 35 = .ok (.getfield 74, 3) := by decide +kernel
theorem de_Tp_countWildCells_38 : decode cd_Tp_countWildCells 38 = .ok (.if_icmp .ge 24, 3) := by decide +kernel
theorem de_Tp_countWildCells_41 : decode cd_Tp_countWildCells 41 = .ok (.aload_n 3, 1) := by decide +kernel
theorem de_Tp_countWildCells_42 : decode cd_Tp_countWildCells 42 = .ok (.getfield 83, 3) := by decide +kernel
theorem de_Tp_countWildCells_45 : decode cd_Tp_countWildCells 45 = .ok (.iload 4, 2) := by decide +kernel
theorem de_Tp_countWildCells_47 : decode cd_Tp_countWildCells 47 = .ok (.laload, 1) := by decide +kernel
theorem de_Tp_countWildCells_48 : decode cd_Tp_countWildCells 48 = .ok (.lconst 0, 1) := by decide +kernel
theorem de_Tp_countWildCells_49 : decode cd_Tp_countWildCells 49 = .ok (.lcmp, 1) := by decide +kernel
theorem de_Tp_countWildCells_50 : decode cd_Tp_countWildCells 50 = .ok (.ifCond .ne 6, 3) := by decide +kernel
theorem de_Tp_countWildCells_53 : decode cd_Tp_countWildCells 53 = .ok (.iinc 1 1, 3) := by decide +kernel
theorem de_Tp_countWildCells_56 : decode cd_Tp_countWildCells 56 = .ok (.iinc 4 1, 3) := by decide +kernel
theorem de_Tp_countWildCells_59 : decode cd_Tp_countWildCells 59 = .ok (.goto (-37), 3) := by decide +kernel
theorem de_Tp_countWildCells_62 : decode cd_Tp_countWildCells 62 = .ok (.iinc 2 1, 3) := by decide +kernel
theorem de_Tp_countWildCells_65 : decode cd_Tp_countWildCells 65 = .ok (.goto (-61), 3) := by decide +kernel
theorem de_Tp_countWildCells_68 : decode cd_Tp_countWildCells 68 = .ok (.iload_n 1, 1) := by decide +kernel
theorem de_Tp_countWildCells_69 : decode cd_Tp_countWildCells 69 = .ok (.ireturn, 1) := by decide +kernel
def jb_Tp_countWildCells_62 (N : Nat) (k4 : mv_M → Nat → Int32 → Int32 → Option (Int32 × mv_M)) (M : mv_M) (v0 : Nat) (v1 : Int32) (v2 : Int32) : Option (Int32 × mv_M) :=
  k4 M v0 v1 (v2 + 1)
def jb_Tp_countWildCells_56 (N : Nat) (k4 : mv_M → Nat → Int32 → Int32 → Option (Int32 × mv_M)) (k22 : mv_M → Nat → Int32 → Int32 → Option Nat → Int32 → Option (Int32 × mv_M)) (M : mv_M) (v0 : Nat) (v1 : Int32) (v2 : Int32) (v3 : Option Nat) (v4 : Int32) : Option (Int32 × mv_M) :=
  k22 M v0 v1 v2 v3 (v4 + 1)
def jb_Tp_countWildCells_22 (N : Nat) (k4 : mv_M → Nat → Int32 → Int32 → Option (Int32 × mv_M)) : Nat → mv_M → Nat → Int32 → Int32 → Option Nat → Int32 → Option (Int32 × mv_M)
  | 0, _, _, _, _, _, _ => none
  | n + 1, M, v0, v1, v2, v3, v4 =>
    Option.bind v3 fun a23 =>
    Option.bind (mj_getI M a23 2 11) fun x23 =>
    if x23 = 0 then (jb_Tp_countWildCells_62 N k4 M v0 v1 v2) else
    Option.bind (mj_getR M a23 2 0) fun x32 =>
    Option.bind x32 fun a35 =>
    Option.bind (mj_getI M a35 5 4) fun x35 =>
    if x35 ≤ v4 then (jb_Tp_countWildCells_62 N k4 M v0 v1 v2) else
    Option.bind (mj_getR M a23 2 9) fun x42 =>
    Option.bind x42 fun a47 =>
    Option.bind (mj_lld M a47 1 v4) fun x47 =>
    if (lg_cmp x47 0) = 0 then (jb_Tp_countWildCells_56 N k4 (jb_Tp_countWildCells_22 N k4 n) M v0 (v1 + 1) v2 (some a23) v4) else
    jb_Tp_countWildCells_56 N k4 (jb_Tp_countWildCells_22 N k4 n) M v0 v1 v2 (some a23) v4
def jb_Tp_countWildCells_4 (N : Nat) : Nat → mv_M → Nat → Int32 → Int32 → Option (Int32 × mv_M)
  | 0, _, _, _, _ => none
  | n + 1, M, v0, v1, v2 =>
    Option.bind (mj_getI M v0 7 1) fun x6 =>
    if x6 ≤ v2 then (some (v1, M)) else
    Option.bind (mj_getR M v0 7 0) fun x13 =>
    Option.bind x13 fun a17 =>
    Option.bind (mj_rld M a17 3 v2) fun x17 =>
    jb_Tp_countWildCells_22 N (jb_Tp_countWildCells_4 N n) N M v0 v1 v2 x17 0
def jb_Tp_countWildCells_0 (N : Nat) (M : mv_M) (v0 : Nat) : Option (Int32 × mv_M) :=
  jb_Tp_countWildCells_4 N N M v0 0 0
def jf_Tp_countWildCells (N : Nat) (M : mv_M) (v0 : Nat) : Option (Int32 × mv_M) := jb_Tp_countWildCells_0 N M v0
set_option maxHeartbeats 4000000 in
set_option maxRecDepth 100000 in
theorem tb_Tp_countWildCells_62 (l : Launch) (D : va_G) (E : Nat → ClassId) (B : Nat) (sa : (Nat → Nat) × Nat × (Nat → Int32)) (M0 M1 : mv_M) (r : Int32) (N : Nat) (k4 : mv_M → Nat → Int32 → Int32 → Option (Int32 × mv_M)) (hk4 : ∀ (M : mv_M) (v0 : Nat) (v1 : Int32) (v2 : Int32), k4 M v0 v1 v2 = some (r, M1) → mv_G (xg l D E B sa) kd_Tp_countWildCells M0 M1 (some (.int r)) M 4 [(0, va_rf (some v0)), (1, .int v1), (2, .int v2)] []) (M : mv_M) (v0 : Nat) (v1 : Int32) (v2 : Int32) (hJ : jb_Tp_countWildCells_62 N k4 M v0 v1 v2 = some (r, M1)) : mv_G (xg l D E B sa) kd_Tp_countWildCells M0 M1 (some (.int r)) M 62 [(0, va_rf (some v0)), (1, .int v1), (2, .int v2)] [] := by
  unfold jb_Tp_countWildCells_62 at hJ
  refine mv_iinc (pc := 62) (v := (v2 + 1)) (lv' := [(2, .int (v2 + 1)), (0, va_rf (some v0)), (1, .int v1)]) de_Tp_countWildCells_62 2 rfl rfl (Nat.le_of_ble_eq_true rfl) rfl ?_
  refine mv_goto (pc := 65) (tgt := 4) de_Tp_countWildCells_65 (by decide) ?_
  exact mv_sub [1, 2, 0] rfl (hk4 M v0 v1 (v2 + 1) hJ)
set_option maxHeartbeats 4000000 in
set_option maxRecDepth 100000 in
theorem tb_Tp_countWildCells_56 (l : Launch) (D : va_G) (E : Nat → ClassId) (B : Nat) (sa : (Nat → Nat) × Nat × (Nat → Int32)) (M0 M1 : mv_M) (r : Int32) (N : Nat) (k4 : mv_M → Nat → Int32 → Int32 → Option (Int32 × mv_M)) (k22 : mv_M → Nat → Int32 → Int32 → Option Nat → Int32 → Option (Int32 × mv_M)) (hk4 : ∀ (M : mv_M) (v0 : Nat) (v1 : Int32) (v2 : Int32), k4 M v0 v1 v2 = some (r, M1) → mv_G (xg l D E B sa) kd_Tp_countWildCells M0 M1 (some (.int r)) M 4 [(0, va_rf (some v0)), (1, .int v1), (2, .int v2)] []) (hk22 : ∀ (M : mv_M) (v0 : Nat) (v1 : Int32) (v2 : Int32) (v3 : Option Nat) (v4 : Int32), k22 M v0 v1 v2 v3 v4 = some (r, M1) → mv_G (xg l D E B sa) kd_Tp_countWildCells M0 M1 (some (.int r)) M 22 [(0, va_rf (some v0)), (1, .int v1), (2, .int v2), (3, va_rf v3), (4, .int v4)] []) (M : mv_M) (v0 : Nat) (v1 : Int32) (v2 : Int32) (v3 : Option Nat) (v4 : Int32) (hJ : jb_Tp_countWildCells_56 N k4 k22 M v0 v1 v2 v3 v4 = some (r, M1)) : mv_G (xg l D E B sa) kd_Tp_countWildCells M0 M1 (some (.int r)) M 56 [(0, va_rf (some v0)), (1, .int v1), (2, .int v2), (3, va_rf v3), (4, .int v4)] [] := by
  unfold jb_Tp_countWildCells_56 at hJ
  refine mv_iinc (pc := 56) (v := (v4 + 1)) (lv' := [(4, .int (v4 + 1)), (0, va_rf (some v0)), (1, .int v1), (2, .int v2), (3, va_rf v3)]) de_Tp_countWildCells_56 4 rfl rfl (Nat.le_of_ble_eq_true rfl) (by simp [List.filter, mv_cat]) ?_
  refine mv_goto (pc := 59) (tgt := 22) de_Tp_countWildCells_59 (by decide) ?_
  exact mv_sub [1, 2, 3, 4, 0] rfl (hk22 M v0 v1 v2 v3 (v4 + 1) hJ)
set_option maxHeartbeats 4000000 in
set_option maxRecDepth 100000 in
theorem tb_Tp_countWildCells_22 (l : Launch) (D : va_G) (E : Nat → ClassId) (B : Nat) (sa : (Nat → Nat) × Nat × (Nat → Int32)) (M0 M1 : mv_M) (r : Int32) (N : Nat) (k4 : mv_M → Nat → Int32 → Int32 → Option (Int32 × mv_M)) (hk4 : ∀ (M : mv_M) (v0 : Nat) (v1 : Int32) (v2 : Int32), k4 M v0 v1 v2 = some (r, M1) → mv_G (xg l D E B sa) kd_Tp_countWildCells M0 M1 (some (.int r)) M 4 [(0, va_rf (some v0)), (1, .int v1), (2, .int v2)] []) : ∀ (n : Nat) (M : mv_M) (v0 : Nat) (v1 : Int32) (v2 : Int32) (v3 : Option Nat) (v4 : Int32) (hJ : jb_Tp_countWildCells_22 N k4 n M v0 v1 v2 v3 v4 = some (r, M1)), mv_G (xg l D E B sa) kd_Tp_countWildCells M0 M1 (some (.int r)) M 22 [(0, va_rf (some v0)), (1, .int v1), (2, .int v2), (3, va_rf v3), (4, .int v4)] [] := by
  intro n
  induction n with
  | zero => intro M v0 v1 v2 v3 v4 hJ; cases hJ
  | succ n ih =>
    intro M v0 v1 v2 v3 v4 hJ
    rw [jb_Tp_countWildCells_22] at hJ
    refine mv_aload_n (pc := 22) (i := 3) de_Tp_countWildCells_22 rfl 3 rfl ?_
    obtain ⟨a23, ha, h23a⟩ := mj_bindE hJ
    subst ha
    refine mv_getI (pc := 23) (f := 11) (kc_2 l D E B sa) (Nat.le_of_ble_eq_true rfl) wt_1_238 de_Tp_countWildCells_23 h23a (fun x23 e23 h23 => ?_)
    refine mv_if_eq (pc := 26) (tgt := 62) de_Tp_countWildCells_26 (by decide) h23 (fun hc26 h26 => ?_) (fun hc26 h26 => ?_)
    · exact mv_sub [0, 1, 2] rfl (tb_Tp_countWildCells_62 l D E B sa M0 M1 r N k4 hk4 M v0 v1 v2 h26)
    · refine mv_iload (pc := 29) de_Tp_countWildCells_29 4 rfl ?_
      refine mv_aload_n (pc := 31) (i := 3) de_Tp_countWildCells_31 rfl 3 rfl ?_
      refine mv_getR (pc := 32) (f := 0) (kc_2 l D E B sa) (Nat.le_of_ble_eq_true rfl) wt_1_221 de_Tp_countWildCells_32 h26 (fun x32 e32 h32 => ?_)
      obtain ⟨a35, ha, h35a⟩ := mj_bindE h32
      subst ha
      refine mv_getI (pc := 35) (f := 4) (kc_5 l D E B sa) (Nat.le_of_ble_eq_true rfl) wt_1_192 de_Tp_countWildCells_35 h35a (fun x35 e35 h35 => ?_)
      refine mv_icmp_ge (pc := 38) (tgt := 62) de_Tp_countWildCells_38 (by decide) h35 (fun hc38 h38 => ?_) (fun hc38 h38 => ?_)
      · exact mv_sub [0, 1, 2] rfl (tb_Tp_countWildCells_62 l D E B sa M0 M1 r N k4 hk4 M v0 v1 v2 h38)
      · refine mv_aload_n (pc := 41) (i := 3) de_Tp_countWildCells_41 rfl 3 rfl ?_
        refine mv_getR (pc := 42) (f := 9) (kc_2 l D E B sa) (Nat.le_of_ble_eq_true rfl) wt_1_234 de_Tp_countWildCells_42 h38 (fun x42 e42 h42 => ?_)
        refine mv_iload (pc := 45) de_Tp_countWildCells_45 4 rfl ?_
        obtain ⟨a47, ha, h47a⟩ := mj_bindE h42
        subst ha
        refine mv_lald (pc := 47) (t := 1) rfl de_Tp_countWildCells_47 h47a (fun x47 e47 h47 => ?_)
        refine mv_lconst (pc := 48) (v := 0) de_Tp_countWildCells_48 (by decide) ?_
        refine mv_lcmp (pc := 49) de_Tp_countWildCells_49 ?_
        refine mv_if_ne (pc := 50) (tgt := 56) de_Tp_countWildCells_50 (by decide) h47 (fun hc50 h50 => ?_) (fun hc50 h50 => ?_)
        · refine mv_iinc (pc := 53) (v := (v1 + 1)) (lv' := [(1, .int (v1 + 1)), (0, va_rf (some v0)), (2, .int v2), (3, va_rf (some a23)), (4, .int v4)]) de_Tp_countWildCells_53 1 rfl rfl (Nat.le_of_ble_eq_true rfl) rfl ?_
          exact mv_sub [1, 0, 2, 3, 4] rfl (tb_Tp_countWildCells_56 l D E B sa M0 M1 r N k4 (jb_Tp_countWildCells_22 N k4 n) hk4 ih M v0 (v1 + 1) v2 (some a23) v4 h50)
        · exact mv_sub [0, 1, 2, 3, 4] rfl (tb_Tp_countWildCells_56 l D E B sa M0 M1 r N k4 (jb_Tp_countWildCells_22 N k4 n) hk4 ih M v0 v1 v2 (some a23) v4 h50)
set_option maxHeartbeats 4000000 in
set_option maxRecDepth 100000 in
theorem tb_Tp_countWildCells_4 (l : Launch) (D : va_G) (E : Nat → ClassId) (B : Nat) (sa : (Nat → Nat) × Nat × (Nat → Int32)) (M0 M1 : mv_M) (r : Int32) (N : Nat) : ∀ (n : Nat) (M : mv_M) (v0 : Nat) (v1 : Int32) (v2 : Int32) (hJ : jb_Tp_countWildCells_4 N n M v0 v1 v2 = some (r, M1)), mv_G (xg l D E B sa) kd_Tp_countWildCells M0 M1 (some (.int r)) M 4 [(0, va_rf (some v0)), (1, .int v1), (2, .int v2)] [] := by
  intro n
  induction n with
  | zero => intro M v0 v1 v2 hJ; cases hJ
  | succ n ih =>
    intro M v0 v1 v2 hJ
    rw [jb_Tp_countWildCells_4] at hJ
    refine mv_iload_n (pc := 4) (i := 2) de_Tp_countWildCells_4 rfl 2 rfl ?_
    refine mv_aload_n (pc := 5) (i := 0) de_Tp_countWildCells_5 rfl 0 rfl ?_
    refine mv_getI (pc := 6) (f := 1) (kc_7 l D E B sa) (Nat.le_of_ble_eq_true rfl) wt_1_46 de_Tp_countWildCells_6 hJ (fun x6 e6 h6 => ?_)
    refine mv_icmp_ge (pc := 9) (tgt := 68) de_Tp_countWildCells_9 (by decide) h6 (fun hc9 h9 => ?_) (fun hc9 h9 => ?_)
    · refine mv_iload_n (pc := 68) (i := 1) de_Tp_countWildCells_68 rfl 1 rfl ?_
      exact mv_iret (pc := 69) rfl de_Tp_countWildCells_69 h9
    · refine mv_aload_n (pc := 12) (i := 0) de_Tp_countWildCells_12 rfl 0 rfl ?_
      refine mv_getR (pc := 13) (f := 0) (kc_7 l D E B sa) (Nat.le_of_ble_eq_true rfl) wt_1_45 de_Tp_countWildCells_13 h9 (fun x13 e13 h13 => ?_)
      refine mv_iload_n (pc := 16) (i := 2) de_Tp_countWildCells_16 rfl 2 rfl ?_
      obtain ⟨a17, ha, h17a⟩ := mj_bindE h13
      subst ha
      refine mv_aald (pc := 17) (t := 3) rfl de_Tp_countWildCells_17 h17a (fun x17 e17 h17 => ?_)
      refine mv_astore_n (pc := 18) (i := 3) (lv' := [(3, va_rf x17), (0, va_rf (some v0)), (1, .int v1), (2, .int v2)]) de_Tp_countWildCells_18 rfl (Nat.le_of_ble_eq_true rfl) rfl ?_
      refine mv_iconst (pc := 19) (v := 0) de_Tp_countWildCells_19 (by decide) ?_
      refine mv_istore (pc := 20) (lv' := [(4, .int 0), (3, va_rf x17), (0, va_rf (some v0)), (1, .int v1), (2, .int v2)]) de_Tp_countWildCells_20 (Nat.le_of_ble_eq_true rfl) (by simp [List.filter, mv_cat]) ?_
      exact mv_sub [2, 3, 4, 1, 0] rfl (tb_Tp_countWildCells_22 l D E B sa M0 M1 r N (jb_Tp_countWildCells_4 N n) ih N M v0 v1 v2 x17 0 h17)
set_option maxHeartbeats 4000000 in
set_option maxRecDepth 100000 in
theorem tb_Tp_countWildCells_0 (l : Launch) (D : va_G) (E : Nat → ClassId) (B : Nat) (sa : (Nat → Nat) × Nat × (Nat → Int32)) (M0 M1 : mv_M) (r : Int32) (N : Nat) (M : mv_M) (v0 : Nat) (hJ : jb_Tp_countWildCells_0 N M v0 = some (r, M1)) : mv_G (xg l D E B sa) kd_Tp_countWildCells M0 M1 (some (.int r)) M 0 [(0, va_rf (some v0))] [] := by
  unfold jb_Tp_countWildCells_0 at hJ
  refine mv_iconst (pc := 0) (v := 0) de_Tp_countWildCells_0 (by decide) ?_
  refine mv_istore_n (pc := 1) (i := 1) (lv' := [(1, .int 0), (0, va_rf (some v0))]) de_Tp_countWildCells_1 rfl (Nat.le_of_ble_eq_true rfl) rfl ?_
  refine mv_iconst (pc := 2) (v := 0) de_Tp_countWildCells_2 (by decide) ?_
  refine mv_istore_n (pc := 3) (i := 2) (lv' := [(2, .int 0), (1, .int 0), (0, va_rf (some v0))]) de_Tp_countWildCells_3 rfl (Nat.le_of_ble_eq_true rfl) rfl ?_
  exact mv_sub [2, 1, 0] rfl (tb_Tp_countWildCells_4 l D E B sa M0 M1 r N N M v0 0 0 hJ)
theorem cm_Tp_countWildCells (l : Launch) (D : va_G) (E : Nat → ClassId) (B : Nat) (sa : (Nat → Nat) × Nat × (Nat → Int32)) (N : Nat) (M : mv_M) (v0 : Nat) (r : Int32) (M1 : mv_M) (hJ : jf_Tp_countWildCells N M v0 = some (r, M1)) : mv_Met (xg l D E B sa) yn_Tp_countWildCells cd_Tp_countWildCells 5 (some .int) 0 0 [va_rf (some v0)] M (some (.int r)) M1 :=
  mv_enter (by decide) (Nat.le_of_ble_eq_true rfl) (mv_sub (lv := [(0, va_rf (some v0))]) [0] rfl (tb_Tp_countWildCells_0 l D E B sa M M1 r N M v0 hJ))
/-! ===== PlainLearner$Tape.trainSteps(II)I ===== -/
abbrev kd_Tp_trainSteps : mv_Kd := (cd_Tp_trainSteps, 5, "PlainLearner$Tape", "trainSteps", (some .int), 6, 167)
theorem de_Tp_trainSteps_0 : decode cd_Tp_trainSteps 0 = .ok (.aload_n 0, 1) := by decide +kernel
theorem de_Tp_trainSteps_1 : decode cd_Tp_trainSteps 1 = .ok (.iload_n 1, 1) := by decide +kernel
theorem de_Tp_trainSteps_2 : decode cd_Tp_trainSteps 2 = .ok (.invokevirtual 33, 3) := by decide +kernel
theorem de_Tp_trainSteps_5 : decode cd_Tp_trainSteps 5 = .ok (.astore_n 3, 1) := by decide +kernel
theorem de_Tp_trainSteps_6 : decode cd_Tp_trainSteps 6 = .ok (.aload_n 3, 1) := by decide +kernel
theorem de_Tp_trainSteps_7 : decode cd_Tp_trainSteps 7 = .ok (.ifnull 13, 3) := by decide +kernel
theorem de_Tp_trainSteps_10 : decode cd_Tp_trainSteps 10 = .ok (.iload_n 2, 1) := by decide +kernel
theorem de_Tp_trainSteps_11 : decode cd_Tp_trainSteps 11 = .ok (.ifCond .lt 9, 3) := by decide +kernel
theorem de_Tp_trainSteps_14 : decode cd_Tp_trainSteps 14 = .ok (.iload_n 2, 1) := by decide +kernel
theorem de_Tp_trainSteps_15 : decode cd_Tp_trainSteps 15 = .ok (.bipush 20, 2) := by decide +kernel
theorem de_Tp_trainSteps_17 : decode cd_Tp_trainSteps 17 = .ok (.if_icmp .le 5, 3) := by decide +kernel
theorem de_Tp_trainSteps_20 : decode cd_Tp_trainSteps 20 = .ok (.iconst (-1), 1) := by decide +kernel
theorem de_Tp_trainSteps_21 : decode cd_Tp_trainSteps 21 = .ok (.ireturn, 1) := by decide +kernel
theorem de_Tp_trainSteps_22 : decode cd_Tp_trainSteps 22 = .ok (.aload_n 3, 1) := by decide +kernel
theorem de_Tp_trainSteps_23 : decode cd_Tp_trainSteps 23 = .ok (.getfield 61, 3) := by decide +kernel
theorem de_Tp_trainSteps_26 : decode cd_Tp_trainSteps 26 = .ok (.getfield 138, 3) := by decide +kernel
theorem de_Tp_trainSteps_29 : decode cd_Tp_trainSteps 29 = .ok (.ifCond .eq 6, 3) := by decide +kernel
theorem de_Tp_trainSteps_32 : decode cd_Tp_trainSteps 32 = .ok (.bipush (-4), 2) := by decide +kernel
theorem de_Tp_trainSteps_34 : decode cd_Tp_trainSteps 34 = .ok (.ireturn, 1) := by decide +kernel
theorem de_Tp_trainSteps_35 : decode cd_Tp_trainSteps 35 = .ok (.iconst 0, 1) := by decide +kernel
theorem de_Tp_trainSteps_36 : decode cd_Tp_trainSteps 36 = .ok (.istore 4, 2) := by decide +kernel
theorem de_Tp_trainSteps_38 : decode cd_Tp_trainSteps 38 = .ok (.iload 4, 2) := by decide +kernel
theorem de_Tp_trainSteps_40 : decode cd_Tp_trainSteps 40 = .ok (.iload_n 2, 1) := by decide +kernel
theorem de_Tp_trainSteps_41 : decode cd_Tp_trainSteps 41 = .ok (.if_icmp .ge 24, 3) := by decide +kernel
theorem de_Tp_trainSteps_44 : decode cd_Tp_trainSteps 44 = .ok (.aload_n 0, 1) := by decide +kernel
theorem de_Tp_trainSteps_45 : decode cd_Tp_trainSteps 45 = .ok (.iload_n 1, 1) := by decide +kernel
theorem de_Tp_trainSteps_46 : decode cd_Tp_trainSteps 46 = .ok (.invokevirtual 141, 3) := by decide +kernel
theorem de_Tp_trainSteps_49 : decode cd_Tp_trainSteps 49 = .ok (.aload_n 0, 1) := by decide +kernel
theorem de_Tp_trainSteps_50 : decode cd_Tp_trainSteps 50 = .ok (.iload_n 1, 1) := by decide +kernel
theorem de_Tp_trainSteps_51 : decode cd_Tp_trainSteps 51 = .ok (.iconst 0, 1) := by decide +kernel
theorem de_Tp_trainSteps_52 : decode cd_Tp_trainSteps 52 = .ok (.invokevirtual 145, 3) := by decide +kernel
theorem de_Tp_trainSteps_55 : decode cd_Tp_trainSteps 55 = .ok (.aload_n 0, 1) := by decide +kernel
theorem de_Tp_trainSteps_56 : decode cd_Tp_trainSteps 56 = .ok (.invokevirtual 149, 3) := by decide +kernel
theorem de_Tp_trainSteps_59 : decode cd_Tp_trainSteps 59 = .ok (.iinc 4 1, 3) := by decide +kernel
theorem de_Tp_trainSteps_62 : decode cd_Tp_trainSteps 62 = .ok (.goto (-24), 3) := by decide +kernel
theorem de_Tp_trainSteps_65 : decode cd_Tp_trainSteps 65 = .ok (.aload_n 0, 1) := by decide +kernel
theorem de_Tp_trainSteps_66 : decode cd_Tp_trainSteps 66 = .ok (.invokevirtual 152, 3) := by decide +kernel
theorem de_Tp_trainSteps_69 : decode cd_Tp_trainSteps 69 = .ok (.ireturn, 1) := by decide +kernel
def jb_Tp_trainSteps_20 (N : Nat) (M : mv_M) : Option (Int32 × mv_M) :=
  some ((-1), M)
def jb_Tp_trainSteps_38 (N : Nat) : Nat → mv_M → Nat → Int32 → Int32 → Int32 → Option (Int32 × mv_M)
  | 0, _, _, _, _, _ => none
  | n + 1, M, v0, v1, v2, v4 =>
    if v2 ≤ v4 then (mj_ob M v0 7 <|
    mj_call (jf_Tp_countWildCells N M v0) fun r66 Mm66 =>
    some (r66, Mm66)) else
    mj_ob M v0 7 <|
    mj_call (jf_Tp_reckonUpTo N M v0 v1) fun r46 Mm46 =>
    mj_ob Mm46 v0 7 <|
    mj_call (jf_Tp_sumSlopes N Mm46 v0 v1 0) fun r52 Mm52 =>
    mj_ob Mm52 v0 7 <|
    mj_call (jf_Tp_moveParameters N Mm52 v0) fun r56 Mm56 =>
    jb_Tp_trainSteps_38 N n Mm56 v0 v1 v2 (v4 + 1)
def jb_Tp_trainSteps_0 (N : Nat) (M : mv_M) (v0 : Nat) (v1 : Int32) (v2 : Int32) : Option (Int32 × mv_M) :=
  mj_ob M v0 7 <|
  mj_call (jf_Tp_find N M v0 v1) fun r2 Mm2 =>
  mj_opt r2 (jb_Tp_trainSteps_20 N Mm2) fun a7 =>
  if v2 < 0 then (jb_Tp_trainSteps_20 N Mm2) else
  if v2 ≤ 20 then (Option.bind (mj_getR Mm2 a7 2 0) fun x23 =>
  Option.bind x23 fun a26 =>
  Option.bind (mj_getI Mm2 a26 5 0) fun x26 =>
  if x26 = 0 then (jb_Tp_trainSteps_38 N N Mm2 v0 v1 v2 0) else
  some ((-4), Mm2)) else
  jb_Tp_trainSteps_20 N Mm2
def jf_Tp_trainSteps (N : Nat) (M : mv_M) (v0 : Nat) (v1 : Int32) (v2 : Int32) : Option (Int32 × mv_M) := jb_Tp_trainSteps_0 N M v0 v1 v2
set_option maxHeartbeats 4000000 in
set_option maxRecDepth 100000 in
theorem tb_Tp_trainSteps_20 (l : Launch) (D : va_G) (E : Nat → ClassId) (B : Nat) (sa : (Nat → Nat) × Nat × (Nat → Int32)) (M0 M1 : mv_M) (r : Int32) (N : Nat) (M : mv_M) (hJ : jb_Tp_trainSteps_20 N M = some (r, M1)) : mv_G (xg l D E B sa) kd_Tp_trainSteps M0 M1 (some (.int r)) M 20 [] [] := by
  unfold jb_Tp_trainSteps_20 at hJ
  refine mv_iconst (pc := 20) (v := (-1)) de_Tp_trainSteps_20 (by decide) ?_
  exact mv_iret (pc := 21) rfl de_Tp_trainSteps_21 hJ
set_option maxHeartbeats 4000000 in
set_option maxRecDepth 100000 in
theorem tb_Tp_trainSteps_38 (l : Launch) (D : va_G) (E : Nat → ClassId) (B : Nat) (sa : (Nat → Nat) × Nat × (Nat → Int32)) (M0 M1 : mv_M) (r : Int32) (N : Nat) : ∀ (n : Nat) (M : mv_M) (v0 : Nat) (v1 : Int32) (v2 : Int32) (v4 : Int32) (hJ : jb_Tp_trainSteps_38 N n M v0 v1 v2 v4 = some (r, M1)), mv_G (xg l D E B sa) kd_Tp_trainSteps M0 M1 (some (.int r)) M 38 [(0, va_rf (some v0)), (1, .int v1), (2, .int v2), (4, .int v4)] [] := by
  intro n
  induction n with
  | zero => intro M v0 v1 v2 v4 hJ; cases hJ
  | succ n ih =>
    intro M v0 v1 v2 v4 hJ
    rw [jb_Tp_trainSteps_38] at hJ
    refine mv_iload (pc := 38) de_Tp_trainSteps_38 3 rfl ?_
    refine mv_iload_n (pc := 40) (i := 2) de_Tp_trainSteps_40 rfl 2 rfl ?_
    refine mv_icmp_ge (pc := 41) (tgt := 65) de_Tp_trainSteps_41 (by decide) hJ (fun hc41 h41 => ?_) (fun hc41 h41 => ?_)
    · refine mv_aload_n (pc := 65) (i := 0) de_Tp_trainSteps_65 rfl 0 rfl ?_
      obtain ⟨hi66, h66o⟩ := mj_obE h41
      obtain ⟨r66, Mm66, hz66, h66⟩ := mj_callE h66o
      refine mv_callV (pc := 66) (n := 0) (av := []) (rest := []) de_Tp_trainSteps_66 (kc_7 l D E B sa) hi66 (cm_Tp_countWildCells l D E B sa N M v0 _ _ hz66) wt_3_72 wt_3_74 wp_12 wt_1_2 wt_3_75 ⟨by decide, by decide, by decide +kernel⟩ rfl ⟨Nat.le_of_ble_eq_true rfl, Nat.le_of_ble_eq_true rfl⟩ (Nat.le_of_ble_eq_true rfl) rfl ?_
      exact mv_iret (pc := 69) rfl de_Tp_trainSteps_69 h66
    · refine mv_aload_n (pc := 44) (i := 0) de_Tp_trainSteps_44 rfl 0 rfl ?_
      refine mv_iload_n (pc := 45) (i := 1) de_Tp_trainSteps_45 rfl 1 rfl ?_
      obtain ⟨hi46, h46o⟩ := mj_obE h41
      obtain ⟨r46, Mm46, hz46, h46⟩ := mj_callE h46o
      refine mv_callV (pc := 46) (n := 1) (av := [.int v1]) (rest := []) de_Tp_trainSteps_46 (kc_7 l D E B sa) hi46 (cm_Tp_reckonUpTo l D E B sa N M v0 v1 _ _ hz46) wt_3_53 wt_2_170 wt_2_171 wt_1_2 wt_2_172 ⟨by decide, by decide, by decide +kernel⟩ rfl ⟨Nat.le_of_ble_eq_true rfl, Nat.le_of_ble_eq_true rfl⟩ (Nat.le_of_ble_eq_true rfl) rfl ?_
      refine mv_aload_n (pc := 49) (i := 0) de_Tp_trainSteps_49 rfl 0 rfl ?_
      refine mv_iload_n (pc := 50) (i := 1) de_Tp_trainSteps_50 rfl 1 rfl ?_
      refine mv_iconst (pc := 51) (v := 0) de_Tp_trainSteps_51 (by decide) ?_
      obtain ⟨hi52, h52o⟩ := mj_obE h46
      obtain ⟨r52, Mm52, hz52, h52⟩ := mj_callE h52o
      refine mv_callV (pc := 52) (n := 2) (av := [.int v1, .int 0]) (rest := []) de_Tp_trainSteps_52 (kc_7 l D E B sa) hi52 (cm_Tp_sumSlopes l D E B sa N Mm46 v0 v1 0 _ _ hz52) wt_3_54 wt_3_12 wt_3_13 wt_1_2 wt_3_14 ⟨by decide, by decide, by decide +kernel⟩ rfl ⟨Nat.le_of_ble_eq_true rfl, Nat.le_of_ble_eq_true rfl⟩ (Nat.le_of_ble_eq_true rfl) rfl ?_
      refine mv_aload_n (pc := 55) (i := 0) de_Tp_trainSteps_55 rfl 0 rfl ?_
      obtain ⟨hi56, h56o⟩ := mj_obE h52
      obtain ⟨r56, Mm56, hz56, h56⟩ := mj_callE h56o
      refine mv_callV (pc := 56) (n := 0) (av := []) (rest := []) de_Tp_trainSteps_56 (kc_7 l D E B sa) hi56 (cm_Tp_moveParameters l D E B sa N Mm52 v0 _ _ hz56) wt_3_55 wt_3_57 wp_11 wt_1_2 wt_3_58 ⟨by decide, by decide, by decide +kernel⟩ rfl ⟨Nat.le_of_ble_eq_true rfl, Nat.le_of_ble_eq_true rfl⟩ (Nat.le_of_ble_eq_true rfl) rfl ?_
      refine mv_iinc (pc := 59) (v := (v4 + 1)) (lv' := [(4, .int (v4 + 1)), (0, va_rf (some v0)), (1, .int v1), (2, .int v2)]) de_Tp_trainSteps_59 3 rfl rfl (Nat.le_of_ble_eq_true rfl) rfl ?_
      refine mv_goto (pc := 62) (tgt := 38) de_Tp_trainSteps_62 (by decide) ?_
      exact mv_sub [1, 2, 3, 0] rfl (ih Mm56 v0 v1 v2 (v4 + 1) h56)
set_option maxHeartbeats 4000000 in
set_option maxRecDepth 100000 in
theorem tb_Tp_trainSteps_0 (l : Launch) (D : va_G) (E : Nat → ClassId) (B : Nat) (sa : (Nat → Nat) × Nat × (Nat → Int32)) (M0 M1 : mv_M) (r : Int32) (N : Nat) (M : mv_M) (v0 : Nat) (v1 : Int32) (v2 : Int32) (hJ : jb_Tp_trainSteps_0 N M v0 v1 v2 = some (r, M1)) : mv_G (xg l D E B sa) kd_Tp_trainSteps M0 M1 (some (.int r)) M 0 [(0, va_rf (some v0)), (1, .int v1), (2, .int v2)] [] := by
  unfold jb_Tp_trainSteps_0 at hJ
  refine mv_aload_n (pc := 0) (i := 0) de_Tp_trainSteps_0 rfl 0 rfl ?_
  refine mv_iload_n (pc := 1) (i := 1) de_Tp_trainSteps_1 rfl 1 rfl ?_
  obtain ⟨hi2, h2o⟩ := mj_obE hJ
  obtain ⟨r2, Mm2, hz2, h2⟩ := mj_callE h2o
  refine mv_callV (pc := 2) (n := 1) (av := [.int v1]) (rest := []) de_Tp_trainSteps_2 (kc_7 l D E B sa) hi2 (cm_Tp_find l D E B sa N M v0 v1 _ _ hz2) wt_2_45 wt_2_46 wt_2_47 wt_1_2 wt_2_48 ⟨by decide, by decide, by decide +kernel⟩ rfl ⟨Nat.le_of_ble_eq_true rfl, Nat.le_of_ble_eq_true rfl⟩ (Nat.le_of_ble_eq_true rfl) rfl ?_
  refine mv_astore_n (pc := 5) (i := 3) (lv' := [(3, va_rf r2), (0, va_rf (some v0)), (1, .int v1), (2, .int v2)]) de_Tp_trainSteps_5 rfl (Nat.le_of_ble_eq_true rfl) rfl ?_
  refine mv_aload_n (pc := 6) (i := 3) de_Tp_trainSteps_6 rfl 0 rfl ?_
  refine mv_ifnull (pc := 7) (tgt := 20) de_Tp_trainSteps_7 (by decide) h2 (fun ha h7 => ?_) (fun a7 ha h7 => ?_)
  · subst ha
    exact mv_sub [] rfl (tb_Tp_trainSteps_20 l D E B sa M0 M1 r N Mm2 h7)
  · subst ha
    refine mv_iload_n (pc := 10) (i := 2) de_Tp_trainSteps_10 rfl 3 rfl ?_
    refine mv_if_lt (pc := 11) (tgt := 20) de_Tp_trainSteps_11 (by decide) h7 (fun hc11 h11 => ?_) (fun hc11 h11 => ?_)
    · exact mv_sub [] rfl (tb_Tp_trainSteps_20 l D E B sa M0 M1 r N Mm2 h11)
    · refine mv_iload_n (pc := 14) (i := 2) de_Tp_trainSteps_14 rfl 3 rfl ?_
      refine mv_bipush (pc := 15) (v := 20) de_Tp_trainSteps_15 (by decide) ?_
      refine mv_icmp_le (pc := 17) (tgt := 22) de_Tp_trainSteps_17 (by decide) h11 (fun hc17 h17 => ?_) (fun hc17 h17 => ?_)
      · refine mv_aload_n (pc := 22) (i := 3) de_Tp_trainSteps_22 rfl 0 rfl ?_
        refine mv_getR (pc := 23) (f := 0) (kc_2 l D E B sa) (Nat.le_of_ble_eq_true rfl) wt_1_221 de_Tp_trainSteps_23 h17 (fun x23 e23 h23 => ?_)
        obtain ⟨a26, ha, h26a⟩ := mj_bindE h23
        subst ha
        refine mv_getI (pc := 26) (f := 0) (kc_5 l D E B sa) (Nat.le_of_ble_eq_true rfl) wt_1_180 de_Tp_trainSteps_26 h26a (fun x26 e26 h26 => ?_)
        refine mv_if_eq (pc := 29) (tgt := 35) de_Tp_trainSteps_29 (by decide) h26 (fun hc29 h29 => ?_) (fun hc29 h29 => ?_)
        · refine mv_iconst (pc := 35) (v := 0) de_Tp_trainSteps_35 (by decide) ?_
          refine mv_istore (pc := 36) (lv' := [(4, .int 0), (3, va_rf (some a7)), (0, va_rf (some v0)), (1, .int v1), (2, .int v2)]) de_Tp_trainSteps_36 (Nat.le_of_ble_eq_true rfl) rfl ?_
          exact mv_sub [2, 3, 4, 0] rfl (tb_Tp_trainSteps_38 l D E B sa M0 M1 r N N Mm2 v0 v1 v2 0 h29)
        · refine mv_bipush (pc := 32) (v := (-4)) de_Tp_trainSteps_32 (by decide) ?_
          exact mv_iret (pc := 34) rfl de_Tp_trainSteps_34 h29
      · exact mv_sub [] rfl (tb_Tp_trainSteps_20 l D E B sa M0 M1 r N Mm2 h17)
theorem cm_Tp_trainSteps (l : Launch) (D : va_G) (E : Nat → ClassId) (B : Nat) (sa : (Nat → Nat) × Nat × (Nat → Int32)) (N : Nat) (M : mv_M) (v0 : Nat) (v1 : Int32) (v2 : Int32) (r : Int32) (M1 : mv_M) (hJ : jf_Tp_trainSteps N M v0 v1 v2 = some (r, M1)) : mv_Met (xg l D E B sa) yn_Tp_trainSteps cd_Tp_trainSteps 5 (some .int) 6 167 [va_rf (some v0), .int v1, .int v2] M (some (.int r)) M1 :=
  mv_enter (by decide) (Nat.le_of_ble_eq_true rfl) (mv_sub (lv := [(0, va_rf (some v0)), (1, .int v1), (2, .int v2)]) [0, 1, 2] rfl (tb_Tp_trainSteps_0 l D E B sa M M1 r N M v0 v1 v2 hJ))
/-! ===== PlainLearner.train(II)I ===== -/
abbrev kd_PL_train : mv_Kd := (cd_PL_train, 3, "PlainLearner", "train", (some .int), 7, 191)
theorem de_PL_train_0 : decode cd_PL_train 0 = .ok (.aload_n 0, 1) := by decide +kernel
theorem de_PL_train_1 : decode cd_PL_train 1 = .ok (.getfield 10, 3) := by decide +kernel
theorem de_PL_train_4 : decode cd_PL_train 4 = .ok (.iload_n 1, 1) := by decide +kernel
theorem de_PL_train_5 : decode cd_PL_train 5 = .ok (.iload_n 2, 1) := by decide +kernel
theorem de_PL_train_6 : decode cd_PL_train 6 = .ok (.invokevirtual 118, 3) := by decide +kernel
theorem de_PL_train_9 : decode cd_PL_train 9 = .ok (.ireturn, 1) := by decide +kernel
def jb_PL_train_0 (N : Nat) (M : mv_M) (v0 : Nat) (v1 : Int32) (v2 : Int32) : Option (Int32 × mv_M) :=
  Option.bind (mj_getR M v0 0 0) fun x1 =>
  Option.bind x1 fun a6 =>
  mj_ob M a6 7 <|
  mj_call (jf_Tp_trainSteps N M a6 v1 v2) fun r6 Mm6 =>
  some (r6, Mm6)
def jf_PL_train (N : Nat) (M : mv_M) (v0 : Nat) (v1 : Int32) (v2 : Int32) : Option (Int32 × mv_M) := jb_PL_train_0 N M v0 v1 v2
set_option maxHeartbeats 4000000 in
set_option maxRecDepth 100000 in
theorem tb_PL_train_0 (l : Launch) (D : va_G) (E : Nat → ClassId) (B : Nat) (sa : (Nat → Nat) × Nat × (Nat → Int32)) (M0 M1 : mv_M) (r : Int32) (N : Nat) (M : mv_M) (v0 : Nat) (v1 : Int32) (v2 : Int32) (hJ : jb_PL_train_0 N M v0 v1 v2 = some (r, M1)) : mv_G (xg l D E B sa) kd_PL_train M0 M1 (some (.int r)) M 0 [(0, va_rf (some v0)), (1, .int v1), (2, .int v2)] [] := by
  unfold jb_PL_train_0 at hJ
  refine mv_aload_n (pc := 0) (i := 0) de_PL_train_0 rfl 0 rfl ?_
  refine mv_getR (pc := 1) (f := 0) (kc_0 l D E B sa) (Nat.le_of_ble_eq_true rfl) wt_1_146 de_PL_train_1 hJ (fun x1 e1 h1 => ?_)
  refine mv_iload_n (pc := 4) (i := 1) de_PL_train_4 rfl 1 rfl ?_
  refine mv_iload_n (pc := 5) (i := 2) de_PL_train_5 rfl 2 rfl ?_
  obtain ⟨a6, ha, h6a⟩ := mj_bindE h1
  subst ha
  obtain ⟨hi6, h6o⟩ := mj_obE h6a
  obtain ⟨r6, Mm6, hz6, h6⟩ := mj_callE h6o
  refine mv_callV (pc := 6) (n := 2) (av := [.int v1, .int v2]) (rest := []) de_PL_train_6 (kc_7 l D E B sa) hi6 (cm_Tp_trainSteps l D E B sa N M a6 v1 v2 _ _ hz6) wt_3_49 wt_3_50 wt_3_51 wt_1_2 wt_3_52 ⟨by decide, by decide, by decide +kernel⟩ rfl ⟨Nat.le_of_ble_eq_true rfl, Nat.le_of_ble_eq_true rfl⟩ (Nat.le_of_ble_eq_true rfl) rfl ?_
  exact mv_iret (pc := 9) rfl de_PL_train_9 h6
theorem cm_PL_train (l : Launch) (D : va_G) (E : Nat → ClassId) (B : Nat) (sa : (Nat → Nat) × Nat × (Nat → Int32)) (N : Nat) (M : mv_M) (v0 : Nat) (v1 : Int32) (v2 : Int32) (r : Int32) (M1 : mv_M) (hJ : jf_PL_train N M v0 v1 v2 = some (r, M1)) : mv_Met (xg l D E B sa) yn_PL_train cd_PL_train 3 (some .int) 7 191 [va_rf (some v0), .int v1, .int v2] M (some (.int r)) M1 :=
  mv_enter (by decide) (Nat.le_of_ble_eq_true rfl) (mv_sub (lv := [(0, va_rf (some v0)), (1, .int v1), (2, .int v2)]) [0, 1, 2] rfl (tb_PL_train_0 l D E B sa M M1 r N M v0 v1 v2 hJ))
/-! ===== PlainLearner$Table.isNumber(I)Z ===== -/
abbrev kd_Ta_isNumber : mv_Kd := (cd_Ta_isNumber, 1, "PlainLearner$Table", "isNumber", (some .boolean), 0, 0)
theorem de_Ta_isNumber_0 : decode cd_Ta_isNumber 0 = .ok (.iload_n 0, 1) := by decide +kernel
theorem de_Ta_isNumber_1 : decode cd_Ta_isNumber 1 = .ok (.sipush (-1000), 3) := by decide +kernel
theorem de_Ta_isNumber_4 : decode cd_Ta_isNumber 4 = .ok (.if_icmp .lt 14, 3) := by decide +kernel
theorem de_Ta_isNumber_7 : decode cd_Ta_isNumber 7 = .ok (.iload_n 0, 1) := by decide +kernel
theorem de_Ta_isNumber_8 : decode cd_Ta_isNumber 8 = .ok (.sipush 1000, 3) := by decide +kernel
theorem de_Ta_isNumber_11 : decode cd_Ta_isNumber 11 = .ok (.if_icmp .gt 7, 3) := by decide +kernel
theorem de_Ta_isNumber_14 : decode cd_Ta_isNumber 14 = .ok (.iconst 1, 1) := by decide +kernel
theorem de_Ta_isNumber_15 : decode cd_Ta_isNumber 15 = .ok (.goto 4, 3) := by decide +kernel
theorem de_Ta_isNumber_18 : decode cd_Ta_isNumber 18 = .ok (.iconst 0, 1) := by decide +kernel
theorem de_Ta_isNumber_19 : decode cd_Ta_isNumber 19 = .ok (.ireturn, 1) := by decide +kernel
def jb_Ta_isNumber_19 (N : Nat) (M : mv_M) (s0 : Int32) : Option (Int32 × mv_M) :=
  if s0 = 0 ∨ s0 = 1 then some (s0, M) else none
def jb_Ta_isNumber_18 (N : Nat) (M : mv_M) : Option (Int32 × mv_M) :=
  jb_Ta_isNumber_19 N M 0
def jb_Ta_isNumber_0 (N : Nat) (M : mv_M) (v0 : Int32) : Option (Int32 × mv_M) :=
  if v0 < (-1000) then (jb_Ta_isNumber_18 N M) else
  if 1000 < v0 then (jb_Ta_isNumber_18 N M) else
  jb_Ta_isNumber_19 N M 1
def jf_Ta_isNumber (N : Nat) (M : mv_M) (v0 : Int32) : Option (Int32 × mv_M) := jb_Ta_isNumber_0 N M v0
set_option maxHeartbeats 4000000 in
set_option maxRecDepth 100000 in
theorem tb_Ta_isNumber_19 (l : Launch) (D : va_G) (E : Nat → ClassId) (B : Nat) (sa : (Nat → Nat) × Nat × (Nat → Int32)) (M0 M1 : mv_M) (r : Int32) (N : Nat) (M : mv_M) (s0 : Int32) (hJ : jb_Ta_isNumber_19 N M s0 = some (r, M1)) : mv_G (xg l D E B sa) kd_Ta_isNumber M0 M1 (some (.int r)) M 19 [] [.int s0] := by
  unfold jb_Ta_isNumber_19 at hJ
  exact mv_zret (pc := 19) rfl de_Ta_isNumber_19 hJ
set_option maxHeartbeats 4000000 in
set_option maxRecDepth 100000 in
theorem tb_Ta_isNumber_18 (l : Launch) (D : va_G) (E : Nat → ClassId) (B : Nat) (sa : (Nat → Nat) × Nat × (Nat → Int32)) (M0 M1 : mv_M) (r : Int32) (N : Nat) (M : mv_M) (hJ : jb_Ta_isNumber_18 N M = some (r, M1)) : mv_G (xg l D E B sa) kd_Ta_isNumber M0 M1 (some (.int r)) M 18 [] [] := by
  unfold jb_Ta_isNumber_18 at hJ
  refine mv_iconst (pc := 18) (v := 0) de_Ta_isNumber_18 (by decide) ?_
  exact mv_sub [] rfl (tb_Ta_isNumber_19 l D E B sa M0 M1 r N M 0 hJ)
set_option maxHeartbeats 4000000 in
set_option maxRecDepth 100000 in
theorem tb_Ta_isNumber_0 (l : Launch) (D : va_G) (E : Nat → ClassId) (B : Nat) (sa : (Nat → Nat) × Nat × (Nat → Int32)) (M0 M1 : mv_M) (r : Int32) (N : Nat) (M : mv_M) (v0 : Int32) (hJ : jb_Ta_isNumber_0 N M v0 = some (r, M1)) : mv_G (xg l D E B sa) kd_Ta_isNumber M0 M1 (some (.int r)) M 0 [(0, .int v0)] [] := by
  unfold jb_Ta_isNumber_0 at hJ
  refine mv_iload_n (pc := 0) (i := 0) de_Ta_isNumber_0 rfl 0 rfl ?_
  refine mv_sipush (pc := 1) (v := (-1000)) de_Ta_isNumber_1 (by decide) ?_
  refine mv_icmp_lt (pc := 4) (tgt := 18) de_Ta_isNumber_4 (by decide) hJ (fun hc4 h4 => ?_) (fun hc4 h4 => ?_)
  · exact mv_sub [] rfl (tb_Ta_isNumber_18 l D E B sa M0 M1 r N M h4)
  · refine mv_iload_n (pc := 7) (i := 0) de_Ta_isNumber_7 rfl 0 rfl ?_
    refine mv_sipush (pc := 8) (v := 1000) de_Ta_isNumber_8 (by decide) ?_
    refine mv_icmp_gt (pc := 11) (tgt := 18) de_Ta_isNumber_11 (by decide) h4 (fun hc11 h11 => ?_) (fun hc11 h11 => ?_)
    · exact mv_sub [] rfl (tb_Ta_isNumber_18 l D E B sa M0 M1 r N M h11)
    · refine mv_iconst (pc := 14) (v := 1) de_Ta_isNumber_14 (by decide) ?_
      refine mv_goto (pc := 15) (tgt := 19) de_Ta_isNumber_15 (by decide) ?_
      exact mv_sub [] rfl (tb_Ta_isNumber_19 l D E B sa M0 M1 r N M 1 h11)
theorem cm_Ta_isNumber (l : Launch) (D : va_G) (E : Nat → ClassId) (B : Nat) (sa : (Nat → Nat) × Nat × (Nat → Int32)) (N : Nat) (M : mv_M) (v0 : Int32) (r : Int32) (M1 : mv_M) (hJ : jf_Ta_isNumber N M v0 = some (r, M1)) : mv_Met (xg l D E B sa) yn_Ta_isNumber cd_Ta_isNumber 1 (some .boolean) 0 0 [.int v0] M (some (.int r)) M1 :=
  mv_enter (by decide) (Nat.le_of_ble_eq_true rfl) (mv_sub (lv := [(0, .int v0)]) [0] rfl (tb_Ta_isNumber_0 l D E B sa M M1 r N M v0 hJ))
/-! ===== PlainLearner$Table.addRow(IIIII)I ===== -/
abbrev kd_Ta_addRow : mv_Kd := (cd_Ta_addRow, 7, "PlainLearner$Table", "addRow", (some .int), 1, 20)
theorem de_Ta_addRow_0 : decode cd_Ta_addRow 0 = .ok (.iload_n 1, 1) := by decide +kernel
theorem de_Ta_addRow_1 : decode cd_Ta_addRow 1 = .ok (.invokestatic 24, 3) := by decide +kernel
theorem de_Ta_addRow_4 : decode cd_Ta_addRow 4 = .ok (.ifCond .eq 36, 3) := by decide +kernel
theorem de_Ta_addRow_7 : decode cd_Ta_addRow 7 = .ok (.iload_n 2, 1) := by decide +kernel
theorem de_Ta_addRow_8 : decode cd_Ta_addRow 8 = .ok (.invokestatic 24, 3) := by decide +kernel
theorem de_Ta_addRow_11 : decode cd_Ta_addRow 11 = .ok (.ifCond .eq 29, 3) := by decide +kernel
theorem de_Ta_addRow_14 : decode cd_Ta_addRow 14 = .ok (.iload_n 3, 1) := by decide +kernel
theorem de_Ta_addRow_15 : decode cd_Ta_addRow 15 = .ok (.invokestatic 24, 3) := by decide +kernel
theorem de_Ta_addRow_18 : decode cd_Ta_addRow 18 = .ok (.ifCond .eq 22, 3) := by decide +kernel
theorem de_Ta_addRow_21 : decode cd_Ta_addRow 21 = .ok (.iload 4, 2) := by decide +kernel
theorem de_Ta_addRow_23 : decode cd_Ta_addRow 23 = .ok (.invokestatic 24, 3) := by decide +kernel
theorem de_Ta_addRow_26 : decode cd_Ta_addRow 26 = .ok (.ifCond .eq 14, 3) := by decide +kernel
theorem de_Ta_addRow_29 : decode cd_Ta_addRow 29 = .ok (.iload 5, 2) := by decide +kernel
theorem de_Ta_addRow_31 : decode cd_Ta_addRow 31 = .ok (.ifCond .lt 9, 3) := by decide +kernel
theorem de_Ta_addRow_34 : decode cd_Ta_addRow 34 = .ok (.iload 5, 2) := by decide +kernel
theorem de_Ta_addRow_36 : decode cd_Ta_addRow 36 = .ok (.iconst 4, 1) := by decide +kernel
theorem de_Ta_addRow_37 : decode cd_Ta_addRow 37 = .ok (.if_icmp .lt 5, 3) := by decide +kernel
theorem de_Ta_addRow_40 : decode cd_Ta_addRow 40 = .ok (.iconst (-1), 1) := by decide +kernel
theorem de_Ta_addRow_41 : decode cd_Ta_addRow 41 = .ok (.ireturn, 1) := by decide +kernel
theorem de_Ta_addRow_42 : decode cd_Ta_addRow 42 = .ok (.aload_n 0, 1) := by decide +kernel
theorem de_Ta_addRow_43 : decode cd_Ta_addRow 43 = .ok (.getfield 28, 3) := by decide +kernel
theorem de_Ta_addRow_46 : decode cd_Ta_addRow 46 = .ok (.bipush 40, 2) := by decide +kernel
theorem de_Ta_addRow_48 : decode cd_Ta_addRow 48 = .ok (.if_icmp .lt 6, 3) := by decide +kernel
theorem de_Ta_addRow_51 : decode cd_Ta_addRow 51 = .ok (.bipush (-3), 2) := by decide +kernel
theorem de_Ta_addRow_53 : decode cd_Ta_addRow 53 = .ok (.ireturn, 1) := by decide +kernel
theorem de_Ta_addRow_54 : decode cd_Ta_addRow 54 = .ok (.aload_n 0, 1) := by decide +kernel
theorem de_Ta_addRow_55 : decode cd_Ta_addRow 55 = .ok (.getfield 28, 3) := by decide +kernel
theorem de_Ta_addRow_58 : decode cd_Ta_addRow 58 = .ok (.iconst 4, 1) := by decide +kernel
theorem de_Ta_addRow_59 : decode cd_Ta_addRow 59 = .ok (.imul, 1) := by decide +kernel
theorem de_Ta_addRow_60 : decode cd_Ta_addRow 60 = .ok (.istore 6, 2) := by decide +kernel
theorem de_Ta_addRow_62 : decode cd_Ta_addRow 62 = .ok (.aload_n 0, 1) := by decide +kernel
theorem de_Ta_addRow_63 : decode cd_Ta_addRow 63 = .ok (.getfield 11, 3) := by decide +kernel
theorem de_Ta_addRow_66 : decode cd_Ta_addRow 66 = .ok (.iload 6, 2) := by decide +kernel
theorem de_Ta_addRow_68 : decode cd_Ta_addRow 68 = .ok (.iload_n 1, 1) := by decide +kernel
theorem de_Ta_addRow_69 : decode cd_Ta_addRow 69 = .ok (.iastore, 1) := by decide +kernel
theorem de_Ta_addRow_70 : decode cd_Ta_addRow 70 = .ok (.aload_n 0, 1) := by decide +kernel
theorem de_Ta_addRow_71 : decode cd_Ta_addRow 71 = .ok (.getfield 11, 3) := by decide +kernel
theorem de_Ta_addRow_74 : decode cd_Ta_addRow 74 = .ok (.iload 6, 2) := by decide +kernel
theorem de_Ta_addRow_76 : decode cd_Ta_addRow 76 = .ok (.iconst 1, 1) := by decide +kernel
theorem de_Ta_addRow_77 : decode cd_Ta_addRow 77 = .ok (.iadd, 1) := by decide +kernel
theorem de_Ta_addRow_78 : decode cd_Ta_addRow 78 = .ok (.iload_n 2, 1) := by decide +kernel
theorem de_Ta_addRow_79 : decode cd_Ta_addRow 79 = .ok (.iastore, 1) := by decide +kernel
theorem de_Ta_addRow_80 : decode cd_Ta_addRow 80 = .ok (.aload_n 0, 1) := by decide +kernel
theorem de_Ta_addRow_81 : decode cd_Ta_addRow 81 = .ok (.getfield 11, 3) := by decide +kernel
theorem de_Ta_addRow_84 : decode cd_Ta_addRow 84 = .ok (.iload 6, 2) := by decide +kernel
theorem de_Ta_addRow_86 : decode cd_Ta_addRow 86 = .ok (.iconst 2, 1) := by decide +kernel
theorem de_Ta_addRow_87 : decode cd_Ta_addRow 87 = .ok (.iadd, 1) := by decide +kernel
theorem de_Ta_addRow_88 : decode cd_Ta_addRow 88 = .ok (.iload_n 3, 1) := by decide +kernel
theorem de_Ta_addRow_89 : decode cd_Ta_addRow 89 = .ok (.iastore, 1) := by decide +kernel
theorem de_Ta_addRow_90 : decode cd_Ta_addRow 90 = .ok (.aload_n 0, 1) := by decide +kernel
theorem de_Ta_addRow_91 : decode cd_Ta_addRow 91 = .ok (.getfield 11, 3) := by decide +kernel
theorem de_Ta_addRow_94 : decode cd_Ta_addRow 94 = .ok (.iload 6, 2) := by decide +kernel
theorem de_Ta_addRow_96 : decode cd_Ta_addRow 96 = .ok (.iconst 3, 1) := by decide +kernel
theorem de_Ta_addRow_97 : decode cd_Ta_addRow 97 = .ok (.iadd, 1) := by decide +kernel
theorem de_Ta_addRow_98 : decode cd_Ta_addRow 98 = .ok (.iload 4, 2) := by decide +kernel
theorem de_Ta_addRow_100 : decode cd_Ta_addRow 100 = .ok (.iastore, 1) := by decide +kernel
theorem de_Ta_addRow_101 : decode cd_Ta_addRow 101 = .ok (.aload_n 0, 1) := by decide +kernel
theorem de_Ta_addRow_102 : decode cd_Ta_addRow 102 = .ok (.getfield 15, 3) := by decide +kernel
theorem de_Ta_addRow_105 : decode cd_Ta_addRow 105 = .ok (.aload_n 0, 1) := by decide +kernel
theorem de_Ta_addRow_106 : decode cd_Ta_addRow 106 = .ok (.getfield 28, 3) := by decide +kernel
theorem de_Ta_addRow_109 : decode cd_Ta_addRow 109 = .ok (.iload 5, 2) := by decide +kernel
theorem de_Ta_addRow_111 : decode cd_Ta_addRow 111 = .ok (.iastore, 1) := by decide +kernel
theorem de_Ta_addRow_112 : decode cd_Ta_addRow 112 = .ok (.aload_n 0, 1) := by decide +kernel
theorem de_Ta_addRow_113 : decode cd_Ta_addRow 113 = .ok (.dup, 1) := by decide +kernel
theorem de_Ta_addRow_114 : decode cd_Ta_addRow 114 = .ok (.getfield 28, 3) := by decide +kernel
theorem de_Ta_addRow_117 : decode cd_Ta_addRow 117 = .ok (.iconst 1, 1) := by decide +kernel
theorem de_Ta_addRow_118 : decode cd_Ta_addRow 118 = .ok (.iadd, 1) := by decide +kernel
theorem de_Ta_addRow_119 : decode cd_Ta_addRow 119 = .ok (.putfield 28, 3) := by decide +kernel
theorem de_Ta_addRow_122 : decode cd_Ta_addRow 122 = .ok (.aload_n 0, 1) := by decide +kernel
theorem de_Ta_addRow_123 : decode cd_Ta_addRow 123 = .ok (.getfield 28, 3) := by decide +kernel
theorem de_Ta_addRow_126 : decode cd_Ta_addRow 126 = .ok (.ireturn, 1) := by decide +kernel
def jb_Ta_addRow_40 (N : Nat) (M : mv_M) : Option (Int32 × mv_M) :=
  some ((-1), M)
def jb_Ta_addRow_0 (N : Nat) (M : mv_M) (v0 : Nat) (v1 : Int32) (v2 : Int32) (v3 : Int32) (v4 : Int32) (v5 : Int32) : Option (Int32 × mv_M) :=
  mj_call (jf_Ta_isNumber N M v1) fun r1 Mm1 =>
  if r1 = 0 then (jb_Ta_addRow_40 N Mm1) else
  mj_call (jf_Ta_isNumber N Mm1 v2) fun r8 Mm8 =>
  if r8 = 0 then (jb_Ta_addRow_40 N Mm8) else
  mj_call (jf_Ta_isNumber N Mm8 v3) fun r15 Mm15 =>
  if r15 = 0 then (jb_Ta_addRow_40 N Mm15) else
  mj_call (jf_Ta_isNumber N Mm15 v4) fun r23 Mm23 =>
  if r23 = 0 then (jb_Ta_addRow_40 N Mm23) else
  if v5 < 0 then (jb_Ta_addRow_40 N Mm23) else
  if v5 < 4 then (Option.bind (mj_getI Mm23 v0 6 4) fun x43 =>
  if x43 < 40 then (Option.bind (mj_getI Mm23 v0 6 4) fun x55 =>
  Option.bind (mj_getR Mm23 v0 6 0) fun x63 =>
  Option.bind x63 fun a69 =>
  Option.bind (mj_ist Mm23 a69 0 (x55 * 4) v1) fun Mm69 =>
  Option.bind (mj_getR Mm69 v0 6 0) fun x71 =>
  Option.bind x71 fun a79 =>
  Option.bind (mj_ist Mm69 a79 0 ((x55 * 4) + 1) v2) fun Mm79 =>
  Option.bind (mj_getR Mm79 v0 6 0) fun x81 =>
  Option.bind x81 fun a89 =>
  Option.bind (mj_ist Mm79 a89 0 ((x55 * 4) + 2) v3) fun Mm89 =>
  Option.bind (mj_getR Mm89 v0 6 0) fun x91 =>
  Option.bind x91 fun a100 =>
  Option.bind (mj_ist Mm89 a100 0 ((x55 * 4) + 3) v4) fun Mm100 =>
  Option.bind (mj_getR Mm100 v0 6 1) fun x102 =>
  Option.bind (mj_getI Mm100 v0 6 4) fun x106 =>
  Option.bind x102 fun a111 =>
  Option.bind (mj_ist Mm100 a111 0 x106 v5) fun Mm111 =>
  Option.bind (mj_getI Mm111 v0 6 4) fun x114 =>
  Option.bind (mj_put Mm111 v0 6 4 (.int (x114 + 1))) fun Mm119 =>
  Option.bind (mj_getI Mm119 v0 6 4) fun x123 =>
  some (x123, Mm119)) else
  some ((-3), Mm23)) else
  jb_Ta_addRow_40 N Mm23
def jf_Ta_addRow (N : Nat) (M : mv_M) (v0 : Nat) (v1 : Int32) (v2 : Int32) (v3 : Int32) (v4 : Int32) (v5 : Int32) : Option (Int32 × mv_M) := jb_Ta_addRow_0 N M v0 v1 v2 v3 v4 v5
set_option maxHeartbeats 4000000 in
set_option maxRecDepth 100000 in
theorem tb_Ta_addRow_40 (l : Launch) (D : va_G) (E : Nat → ClassId) (B : Nat) (sa : (Nat → Nat) × Nat × (Nat → Int32)) (M0 M1 : mv_M) (r : Int32) (N : Nat) (M : mv_M) (hJ : jb_Ta_addRow_40 N M = some (r, M1)) : mv_G (xg l D E B sa) kd_Ta_addRow M0 M1 (some (.int r)) M 40 [] [] := by
  unfold jb_Ta_addRow_40 at hJ
  refine mv_iconst (pc := 40) (v := (-1)) de_Ta_addRow_40 (by decide) ?_
  exact mv_iret (pc := 41) rfl de_Ta_addRow_41 hJ
set_option maxHeartbeats 4000000 in
set_option maxRecDepth 100000 in
theorem tb_Ta_addRow_0 (l : Launch) (D : va_G) (E : Nat → ClassId) (B : Nat) (sa : (Nat → Nat) × Nat × (Nat → Int32)) (M0 M1 : mv_M) (r : Int32) (N : Nat) (M : mv_M) (v0 : Nat) (v1 : Int32) (v2 : Int32) (v3 : Int32) (v4 : Int32) (v5 : Int32) (hJ : jb_Ta_addRow_0 N M v0 v1 v2 v3 v4 v5 = some (r, M1)) : mv_G (xg l D E B sa) kd_Ta_addRow M0 M1 (some (.int r)) M 0 [(0, va_rf (some v0)), (1, .int v1), (2, .int v2), (3, .int v3), (4, .int v4), (5, .int v5)] [] := by
  unfold jb_Ta_addRow_0 at hJ
  refine mv_iload_n (pc := 0) (i := 1) de_Ta_addRow_0 rfl 1 rfl ?_
  obtain ⟨r1, Mm1, hz1, h1⟩ := mj_callE hJ
  refine mv_callS (pc := 1) (n := 1) (av := [.int v1]) (rest := []) de_Ta_addRow_1 (cm_Ta_isNumber l D E B sa N M v1 _ _ hz1) wt_3_84 wt_3_85 wt_1_4 wt_3_86 ⟨by decide, by decide, by decide +kernel⟩ rfl ⟨Nat.le_of_ble_eq_true rfl, Nat.le_of_ble_eq_true rfl⟩ (Nat.le_of_ble_eq_true rfl) rfl ?_
  refine mv_if_eq (pc := 4) (tgt := 40) de_Ta_addRow_4 (by decide) h1 (fun hc4 h4 => ?_) (fun hc4 h4 => ?_)
  · exact mv_sub [] rfl (tb_Ta_addRow_40 l D E B sa M0 M1 r N Mm1 h4)
  · refine mv_iload_n (pc := 7) (i := 2) de_Ta_addRow_7 rfl 2 rfl ?_
    obtain ⟨r8, Mm8, hz8, h8⟩ := mj_callE h4
    refine mv_callS (pc := 8) (n := 1) (av := [.int v2]) (rest := []) de_Ta_addRow_8 (cm_Ta_isNumber l D E B sa N Mm1 v2 _ _ hz8) wt_3_84 wt_3_85 wt_1_4 wt_3_86 ⟨by decide, by decide, by decide +kernel⟩ rfl ⟨Nat.le_of_ble_eq_true rfl, Nat.le_of_ble_eq_true rfl⟩ (Nat.le_of_ble_eq_true rfl) rfl ?_
    refine mv_if_eq (pc := 11) (tgt := 40) de_Ta_addRow_11 (by decide) h8 (fun hc11 h11 => ?_) (fun hc11 h11 => ?_)
    · exact mv_sub [] rfl (tb_Ta_addRow_40 l D E B sa M0 M1 r N Mm8 h11)
    · refine mv_iload_n (pc := 14) (i := 3) de_Ta_addRow_14 rfl 3 rfl ?_
      obtain ⟨r15, Mm15, hz15, h15⟩ := mj_callE h11
      refine mv_callS (pc := 15) (n := 1) (av := [.int v3]) (rest := []) de_Ta_addRow_15 (cm_Ta_isNumber l D E B sa N Mm8 v3 _ _ hz15) wt_3_84 wt_3_85 wt_1_4 wt_3_86 ⟨by decide, by decide, by decide +kernel⟩ rfl ⟨Nat.le_of_ble_eq_true rfl, Nat.le_of_ble_eq_true rfl⟩ (Nat.le_of_ble_eq_true rfl) rfl ?_
      refine mv_if_eq (pc := 18) (tgt := 40) de_Ta_addRow_18 (by decide) h15 (fun hc18 h18 => ?_) (fun hc18 h18 => ?_)
      · exact mv_sub [] rfl (tb_Ta_addRow_40 l D E B sa M0 M1 r N Mm15 h18)
      · refine mv_iload (pc := 21) de_Ta_addRow_21 4 rfl ?_
        obtain ⟨r23, Mm23, hz23, h23⟩ := mj_callE h18
        refine mv_callS (pc := 23) (n := 1) (av := [.int v4]) (rest := []) de_Ta_addRow_23 (cm_Ta_isNumber l D E B sa N Mm15 v4 _ _ hz23) wt_3_84 wt_3_85 wt_1_4 wt_3_86 ⟨by decide, by decide, by decide +kernel⟩ rfl ⟨Nat.le_of_ble_eq_true rfl, Nat.le_of_ble_eq_true rfl⟩ (Nat.le_of_ble_eq_true rfl) rfl ?_
        refine mv_if_eq (pc := 26) (tgt := 40) de_Ta_addRow_26 (by decide) h23 (fun hc26 h26 => ?_) (fun hc26 h26 => ?_)
        · exact mv_sub [] rfl (tb_Ta_addRow_40 l D E B sa M0 M1 r N Mm23 h26)
        · refine mv_iload (pc := 29) de_Ta_addRow_29 5 rfl ?_
          refine mv_if_lt (pc := 31) (tgt := 40) de_Ta_addRow_31 (by decide) h26 (fun hc31 h31 => ?_) (fun hc31 h31 => ?_)
          · exact mv_sub [] rfl (tb_Ta_addRow_40 l D E B sa M0 M1 r N Mm23 h31)
          · refine mv_iload (pc := 34) de_Ta_addRow_34 5 rfl ?_
            refine mv_iconst (pc := 36) (v := 4) de_Ta_addRow_36 (by decide) ?_
            refine mv_icmp_lt (pc := 37) (tgt := 42) de_Ta_addRow_37 (by decide) h31 (fun hc37 h37 => ?_) (fun hc37 h37 => ?_)
            · refine mv_aload_n (pc := 42) (i := 0) de_Ta_addRow_42 rfl 0 rfl ?_
              refine mv_getI (pc := 43) (f := 4) (kc_6 l D E B sa) (Nat.le_of_ble_eq_true rfl) wt_1_70 de_Ta_addRow_43 h37 (fun x43 e43 h43 => ?_)
              refine mv_bipush (pc := 46) (v := 40) de_Ta_addRow_46 (by decide) ?_
              refine mv_icmp_lt (pc := 48) (tgt := 54) de_Ta_addRow_48 (by decide) h43 (fun hc48 h48 => ?_) (fun hc48 h48 => ?_)
              · refine mv_aload_n (pc := 54) (i := 0) de_Ta_addRow_54 rfl 0 rfl ?_
                refine mv_getI (pc := 55) (f := 4) (kc_6 l D E B sa) (Nat.le_of_ble_eq_true rfl) wt_1_70 de_Ta_addRow_55 h48 (fun x55 e55 h55 => ?_)
                refine mv_iconst (pc := 58) (v := 4) de_Ta_addRow_58 (by decide) ?_
                refine mv_imul (pc := 59) de_Ta_addRow_59 ?_
                refine mv_istore (pc := 60) (lv' := [(6, .int (x55 * 4)), (0, va_rf (some v0)), (1, .int v1), (2, .int v2), (3, .int v3), (4, .int v4), (5, .int v5)]) de_Ta_addRow_60 (Nat.le_of_ble_eq_true rfl) rfl ?_
                refine mv_aload_n (pc := 62) (i := 0) de_Ta_addRow_62 rfl 1 rfl ?_
                refine mv_getR (pc := 63) (f := 0) (kc_6 l D E B sa) (Nat.le_of_ble_eq_true rfl) wt_1_66 de_Ta_addRow_63 h55 (fun x63 e63 h63 => ?_)
                refine mv_iload (pc := 66) de_Ta_addRow_66 0 rfl ?_
                refine mv_iload_n (pc := 68) (i := 1) de_Ta_addRow_68 rfl 2 rfl ?_
                obtain ⟨a69, ha, h69a⟩ := mj_bindE h63
                subst ha
                refine mv_iast (pc := 69) (t := 0) rfl de_Ta_addRow_69 h69a (fun Mm69 e69 h69 => ?_)
                refine mv_aload_n (pc := 70) (i := 0) de_Ta_addRow_70 rfl 1 rfl ?_
                refine mv_getR (pc := 71) (f := 0) (kc_6 l D E B sa) (Nat.le_of_ble_eq_true rfl) wt_1_66 de_Ta_addRow_71 h69 (fun x71 e71 h71 => ?_)
                refine mv_iload (pc := 74) de_Ta_addRow_74 0 rfl ?_
                refine mv_iconst (pc := 76) (v := 1) de_Ta_addRow_76 (by decide) ?_
                refine mv_iadd (pc := 77) de_Ta_addRow_77 ?_
                refine mv_iload_n (pc := 78) (i := 2) de_Ta_addRow_78 rfl 3 rfl ?_
                obtain ⟨a79, ha, h79a⟩ := mj_bindE h71
                subst ha
                refine mv_iast (pc := 79) (t := 0) rfl de_Ta_addRow_79 h79a (fun Mm79 e79 h79 => ?_)
                refine mv_aload_n (pc := 80) (i := 0) de_Ta_addRow_80 rfl 1 rfl ?_
                refine mv_getR (pc := 81) (f := 0) (kc_6 l D E B sa) (Nat.le_of_ble_eq_true rfl) wt_1_66 de_Ta_addRow_81 h79 (fun x81 e81 h81 => ?_)
                refine mv_iload (pc := 84) de_Ta_addRow_84 0 rfl ?_
                refine mv_iconst (pc := 86) (v := 2) de_Ta_addRow_86 (by decide) ?_
                refine mv_iadd (pc := 87) de_Ta_addRow_87 ?_
                refine mv_iload_n (pc := 88) (i := 3) de_Ta_addRow_88 rfl 4 rfl ?_
                obtain ⟨a89, ha, h89a⟩ := mj_bindE h81
                subst ha
                refine mv_iast (pc := 89) (t := 0) rfl de_Ta_addRow_89 h89a (fun Mm89 e89 h89 => ?_)
                refine mv_aload_n (pc := 90) (i := 0) de_Ta_addRow_90 rfl 1 rfl ?_
                refine mv_getR (pc := 91) (f := 0) (kc_6 l D E B sa) (Nat.le_of_ble_eq_true rfl) wt_1_66 de_Ta_addRow_91 h89 (fun x91 e91 h91 => ?_)
                refine mv_iload (pc := 94) de_Ta_addRow_94 0 rfl ?_
                refine mv_iconst (pc := 96) (v := 3) de_Ta_addRow_96 (by decide) ?_
                refine mv_iadd (pc := 97) de_Ta_addRow_97 ?_
                refine mv_iload (pc := 98) de_Ta_addRow_98 5 rfl ?_
                obtain ⟨a100, ha, h100a⟩ := mj_bindE h91
                subst ha
                refine mv_iast (pc := 100) (t := 0) rfl de_Ta_addRow_100 h100a (fun Mm100 e100 h100 => ?_)
                refine mv_aload_n (pc := 101) (i := 0) de_Ta_addRow_101 rfl 1 rfl ?_
                refine mv_getR (pc := 102) (f := 1) (kc_6 l D E B sa) (Nat.le_of_ble_eq_true rfl) wt_1_67 de_Ta_addRow_102 h100 (fun x102 e102 h102 => ?_)
                refine mv_aload_n (pc := 105) (i := 0) de_Ta_addRow_105 rfl 1 rfl ?_
                refine mv_getI (pc := 106) (f := 4) (kc_6 l D E B sa) (Nat.le_of_ble_eq_true rfl) wt_1_70 de_Ta_addRow_106 h102 (fun x106 e106 h106 => ?_)
                refine mv_iload (pc := 109) de_Ta_addRow_109 6 rfl ?_
                obtain ⟨a111, ha, h111a⟩ := mj_bindE h106
                subst ha
                refine mv_iast (pc := 111) (t := 0) rfl de_Ta_addRow_111 h111a (fun Mm111 e111 h111 => ?_)
                refine mv_aload_n (pc := 112) (i := 0) de_Ta_addRow_112 rfl 1 rfl ?_
                refine mv_dup (pc := 113) de_Ta_addRow_113 rfl ?_
                refine mv_getI (pc := 114) (f := 4) (kc_6 l D E B sa) (Nat.le_of_ble_eq_true rfl) wt_1_70 de_Ta_addRow_114 h111 (fun x114 e114 h114 => ?_)
                refine mv_iconst (pc := 117) (v := 1) de_Ta_addRow_117 (by decide) ?_
                refine mv_iadd (pc := 118) de_Ta_addRow_118 ?_
                refine mv_put (pc := 119) (f := 4) (kc_6 l D E B sa) (Nat.le_of_ble_eq_true rfl) wt_1_70 rfl rfl rfl de_Ta_addRow_119 h114 (fun Mm119 e119 h119 => ?_)
                refine mv_aload_n (pc := 122) (i := 0) de_Ta_addRow_122 rfl 1 rfl ?_
                refine mv_getI (pc := 123) (f := 4) (kc_6 l D E B sa) (Nat.le_of_ble_eq_true rfl) wt_1_70 de_Ta_addRow_123 h119 (fun x123 e123 h123 => ?_)
                exact mv_iret (pc := 126) rfl de_Ta_addRow_126 h123
              · refine mv_bipush (pc := 51) (v := (-3)) de_Ta_addRow_51 (by decide) ?_
                exact mv_iret (pc := 53) rfl de_Ta_addRow_53 h48
            · exact mv_sub [] rfl (tb_Ta_addRow_40 l D E B sa M0 M1 r N Mm23 h37)
theorem cm_Ta_addRow (l : Launch) (D : va_G) (E : Nat → ClassId) (B : Nat) (sa : (Nat → Nat) × Nat × (Nat → Int32)) (N : Nat) (M : mv_M) (v0 : Nat) (v1 : Int32) (v2 : Int32) (v3 : Int32) (v4 : Int32) (v5 : Int32) (r : Int32) (M1 : mv_M) (hJ : jf_Ta_addRow N M v0 v1 v2 v3 v4 v5 = some (r, M1)) : mv_Met (xg l D E B sa) yn_Ta_addRow cd_Ta_addRow 7 (some .int) 1 20 [va_rf (some v0), .int v1, .int v2, .int v3, .int v4, .int v5] M (some (.int r)) M1 :=
  mv_enter (by decide) (Nat.le_of_ble_eq_true rfl) (mv_sub (lv := [(0, va_rf (some v0)), (1, .int v1), (2, .int v2), (3, .int v3), (4, .int v4), (5, .int v5)]) [0, 1, 2, 3, 4, 5] rfl (tb_Ta_addRow_0 l D E B sa M M1 r N M v0 v1 v2 v3 v4 v5 hJ))
/-! ===== PlainLearner.row(IIIII)I ===== -/
abbrev kd_PL_row : mv_Kd := (cd_PL_row, 6, "PlainLearner", "row", (some .int), 2, 46)
theorem de_PL_row_0 : decode cd_PL_row 0 = .ok (.aload_n 0, 1) := by decide +kernel
theorem de_PL_row_1 : decode cd_PL_row 1 = .ok (.getfield 19, 3) := by decide +kernel
theorem de_PL_row_4 : decode cd_PL_row 4 = .ok (.iload_n 1, 1) := by decide +kernel
theorem de_PL_row_5 : decode cd_PL_row 5 = .ok (.iload_n 2, 1) := by decide +kernel
theorem de_PL_row_6 : decode cd_PL_row 6 = .ok (.iload_n 3, 1) := by decide +kernel
theorem de_PL_row_7 : decode cd_PL_row 7 = .ok (.iload 4, 2) := by decide +kernel
theorem de_PL_row_9 : decode cd_PL_row 9 = .ok (.iload 5, 2) := by decide +kernel
theorem de_PL_row_11 : decode cd_PL_row 11 = .ok (.invokevirtual 122, 3) := by decide +kernel
theorem de_PL_row_14 : decode cd_PL_row 14 = .ok (.ireturn, 1) := by decide +kernel
def jb_PL_row_0 (N : Nat) (M : mv_M) (v0 : Nat) (v1 : Int32) (v2 : Int32) (v3 : Int32) (v4 : Int32) (v5 : Int32) : Option (Int32 × mv_M) :=
  Option.bind (mj_getR M v0 0 1) fun x1 =>
  Option.bind x1 fun a11 =>
  mj_ob M a11 6 <|
  mj_call (jf_Ta_addRow N M a11 v1 v2 v3 v4 v5) fun r11 Mm11 =>
  some (r11, Mm11)
def jf_PL_row (N : Nat) (M : mv_M) (v0 : Nat) (v1 : Int32) (v2 : Int32) (v3 : Int32) (v4 : Int32) (v5 : Int32) : Option (Int32 × mv_M) := jb_PL_row_0 N M v0 v1 v2 v3 v4 v5
set_option maxHeartbeats 4000000 in
set_option maxRecDepth 100000 in
theorem tb_PL_row_0 (l : Launch) (D : va_G) (E : Nat → ClassId) (B : Nat) (sa : (Nat → Nat) × Nat × (Nat → Int32)) (M0 M1 : mv_M) (r : Int32) (N : Nat) (M : mv_M) (v0 : Nat) (v1 : Int32) (v2 : Int32) (v3 : Int32) (v4 : Int32) (v5 : Int32) (hJ : jb_PL_row_0 N M v0 v1 v2 v3 v4 v5 = some (r, M1)) : mv_G (xg l D E B sa) kd_PL_row M0 M1 (some (.int r)) M 0 [(0, va_rf (some v0)), (1, .int v1), (2, .int v2), (3, .int v3), (4, .int v4), (5, .int v5)] [] := by
  unfold jb_PL_row_0 at hJ
  refine mv_aload_n (pc := 0) (i := 0) de_PL_row_0 rfl 0 rfl ?_
  refine mv_getR (pc := 1) (f := 1) (kc_0 l D E B sa) (Nat.le_of_ble_eq_true rfl) wt_1_147 de_PL_row_1 hJ (fun x1 e1 h1 => ?_)
  refine mv_iload_n (pc := 4) (i := 1) de_PL_row_4 rfl 1 rfl ?_
  refine mv_iload_n (pc := 5) (i := 2) de_PL_row_5 rfl 2 rfl ?_
  refine mv_iload_n (pc := 6) (i := 3) de_PL_row_6 rfl 3 rfl ?_
  refine mv_iload (pc := 7) de_PL_row_7 4 rfl ?_
  refine mv_iload (pc := 9) de_PL_row_9 5 rfl ?_
  obtain ⟨a11, ha, h11a⟩ := mj_bindE h1
  subst ha
  obtain ⟨hi11, h11o⟩ := mj_obE h11a
  obtain ⟨r11, Mm11, hz11, h11⟩ := mj_callE h11o
  refine mv_callV (pc := 11) (n := 5) (av := [.int v1, .int v2, .int v3, .int v4, .int v5]) (rest := []) de_PL_row_11 (kc_6 l D E B sa) hi11 (cm_Ta_addRow l D E B sa N M a11 v1 v2 v3 v4 v5 _ _ hz11) wt_3_80 wt_3_81 wt_3_82 wt_1_4 wt_3_83 ⟨by decide, by decide, by decide +kernel⟩ rfl ⟨Nat.le_of_ble_eq_true rfl, Nat.le_of_ble_eq_true rfl⟩ (Nat.le_of_ble_eq_true rfl) rfl ?_
  exact mv_iret (pc := 14) rfl de_PL_row_14 h11
theorem cm_PL_row (l : Launch) (D : va_G) (E : Nat → ClassId) (B : Nat) (sa : (Nat → Nat) × Nat × (Nat → Int32)) (N : Nat) (M : mv_M) (v0 : Nat) (v1 : Int32) (v2 : Int32) (v3 : Int32) (v4 : Int32) (v5 : Int32) (r : Int32) (M1 : mv_M) (hJ : jf_PL_row N M v0 v1 v2 v3 v4 v5 = some (r, M1)) : mv_Met (xg l D E B sa) yn_PL_row cd_PL_row 6 (some .int) 2 46 [va_rf (some v0), .int v1, .int v2, .int v3, .int v4, .int v5] M (some (.int r)) M1 :=
  mv_enter (by decide) (Nat.le_of_ble_eq_true rfl) (mv_sub (lv := [(0, va_rf (some v0)), (1, .int v1), (2, .int v2), (3, .int v3), (4, .int v4), (5, .int v5)]) [0, 1, 2, 3, 4, 5] rfl (tb_PL_row_0 l D E B sa M M1 r N M v0 v1 v2 v3 v4 v5 hJ))
/-! ===== PlainLearner$Table.isColumn(I)Z ===== -/
abbrev kd_Ta_isColumn : mv_Kd := (cd_Ta_isColumn, 1, "PlainLearner$Table", "isColumn", (some .boolean), 0, 0)
theorem de_Ta_isColumn_0 : decode cd_Ta_isColumn 0 = .ok (.iload_n 0, 1) := by decide +kernel
theorem de_Ta_isColumn_1 : decode cd_Ta_isColumn 1 = .ok (.ifCond .lt 12, 3) := by decide +kernel
theorem de_Ta_isColumn_4 : decode cd_Ta_isColumn 4 = .ok (.iload_n 0, 1) := by decide +kernel
theorem de_Ta_isColumn_5 : decode cd_Ta_isColumn 5 = .ok (.iconst 4, 1) := by decide +kernel
theorem de_Ta_isColumn_6 : decode cd_Ta_isColumn 6 = .ok (.if_icmp .ge 7, 3) := by decide +kernel
theorem de_Ta_isColumn_9 : decode cd_Ta_isColumn 9 = .ok (.iconst 1, 1) := by decide +kernel
theorem de_Ta_isColumn_10 : decode cd_Ta_isColumn 10 = .ok (.goto 4, 3) := by decide +kernel
theorem de_Ta_isColumn_13 : decode cd_Ta_isColumn 13 = .ok (.iconst 0, 1) := by decide +kernel
theorem de_Ta_isColumn_14 : decode cd_Ta_isColumn 14 = .ok (.ireturn, 1) := by decide +kernel
def jb_Ta_isColumn_14 (N : Nat) (M : mv_M) (s0 : Int32) : Option (Int32 × mv_M) :=
  if s0 = 0 ∨ s0 = 1 then some (s0, M) else none
def jb_Ta_isColumn_13 (N : Nat) (M : mv_M) : Option (Int32 × mv_M) :=
  jb_Ta_isColumn_14 N M 0
def jb_Ta_isColumn_0 (N : Nat) (M : mv_M) (v0 : Int32) : Option (Int32 × mv_M) :=
  if v0 < 0 then (jb_Ta_isColumn_13 N M) else
  if 4 ≤ v0 then (jb_Ta_isColumn_13 N M) else
  jb_Ta_isColumn_14 N M 1
def jf_Ta_isColumn (N : Nat) (M : mv_M) (v0 : Int32) : Option (Int32 × mv_M) := jb_Ta_isColumn_0 N M v0
set_option maxHeartbeats 4000000 in
set_option maxRecDepth 100000 in
theorem tb_Ta_isColumn_14 (l : Launch) (D : va_G) (E : Nat → ClassId) (B : Nat) (sa : (Nat → Nat) × Nat × (Nat → Int32)) (M0 M1 : mv_M) (r : Int32) (N : Nat) (M : mv_M) (s0 : Int32) (hJ : jb_Ta_isColumn_14 N M s0 = some (r, M1)) : mv_G (xg l D E B sa) kd_Ta_isColumn M0 M1 (some (.int r)) M 14 [] [.int s0] := by
  unfold jb_Ta_isColumn_14 at hJ
  exact mv_zret (pc := 14) rfl de_Ta_isColumn_14 hJ
set_option maxHeartbeats 4000000 in
set_option maxRecDepth 100000 in
theorem tb_Ta_isColumn_13 (l : Launch) (D : va_G) (E : Nat → ClassId) (B : Nat) (sa : (Nat → Nat) × Nat × (Nat → Int32)) (M0 M1 : mv_M) (r : Int32) (N : Nat) (M : mv_M) (hJ : jb_Ta_isColumn_13 N M = some (r, M1)) : mv_G (xg l D E B sa) kd_Ta_isColumn M0 M1 (some (.int r)) M 13 [] [] := by
  unfold jb_Ta_isColumn_13 at hJ
  refine mv_iconst (pc := 13) (v := 0) de_Ta_isColumn_13 (by decide) ?_
  exact mv_sub [] rfl (tb_Ta_isColumn_14 l D E B sa M0 M1 r N M 0 hJ)
set_option maxHeartbeats 4000000 in
set_option maxRecDepth 100000 in
theorem tb_Ta_isColumn_0 (l : Launch) (D : va_G) (E : Nat → ClassId) (B : Nat) (sa : (Nat → Nat) × Nat × (Nat → Int32)) (M0 M1 : mv_M) (r : Int32) (N : Nat) (M : mv_M) (v0 : Int32) (hJ : jb_Ta_isColumn_0 N M v0 = some (r, M1)) : mv_G (xg l D E B sa) kd_Ta_isColumn M0 M1 (some (.int r)) M 0 [(0, .int v0)] [] := by
  unfold jb_Ta_isColumn_0 at hJ
  refine mv_iload_n (pc := 0) (i := 0) de_Ta_isColumn_0 rfl 0 rfl ?_
  refine mv_if_lt (pc := 1) (tgt := 13) de_Ta_isColumn_1 (by decide) hJ (fun hc1 h1 => ?_) (fun hc1 h1 => ?_)
  · exact mv_sub [] rfl (tb_Ta_isColumn_13 l D E B sa M0 M1 r N M h1)
  · refine mv_iload_n (pc := 4) (i := 0) de_Ta_isColumn_4 rfl 0 rfl ?_
    refine mv_iconst (pc := 5) (v := 4) de_Ta_isColumn_5 (by decide) ?_
    refine mv_icmp_ge (pc := 6) (tgt := 13) de_Ta_isColumn_6 (by decide) h1 (fun hc6 h6 => ?_) (fun hc6 h6 => ?_)
    · exact mv_sub [] rfl (tb_Ta_isColumn_13 l D E B sa M0 M1 r N M h6)
    · refine mv_iconst (pc := 9) (v := 1) de_Ta_isColumn_9 (by decide) ?_
      refine mv_goto (pc := 10) (tgt := 14) de_Ta_isColumn_10 (by decide) ?_
      exact mv_sub [] rfl (tb_Ta_isColumn_14 l D E B sa M0 M1 r N M 1 h6)
theorem cm_Ta_isColumn (l : Launch) (D : va_G) (E : Nat → ClassId) (B : Nat) (sa : (Nat → Nat) × Nat × (Nat → Int32)) (N : Nat) (M : mv_M) (v0 : Int32) (r : Int32) (M1 : mv_M) (hJ : jf_Ta_isColumn N M v0 = some (r, M1)) : mv_Met (xg l D E B sa) yn_Ta_isColumn cd_Ta_isColumn 1 (some .boolean) 0 0 [.int v0] M (some (.int r)) M1 :=
  mv_enter (by decide) (Nat.le_of_ble_eq_true rfl) (mv_sub (lv := [(0, .int v0)]) [0] rfl (tb_Ta_isColumn_0 l D E B sa M M1 r N M v0 hJ))
/-! ===== java/util/Arrays.fill([II)V ===== -/
abbrev kd_Ja_fill0 : mv_Kd := (cd_Ja_fill0, 4, "java/util/Arrays", "fill", none, 0, 0)
theorem de_Ja_fill0_0 : decode cd_Ja_fill0 0 = .ok (.iconst 0, 1) := by decide +kernel
theorem de_Ja_fill0_1 : decode cd_Ja_fill0 1 = .ok (.istore_n 2, 1) := by decide +kernel
theorem de_Ja_fill0_2 : decode cd_Ja_fill0 2 = .ok (.aload_n 0, 1) := by decide +kernel
theorem de_Ja_fill0_3 : decode cd_Ja_fill0 3 = .ok (.arraylength, 1) := by decide +kernel
theorem de_Ja_fill0_4 : decode cd_Ja_fill0 4 = .ok (.istore_n 3, 1) := by decide +kernel
theorem de_Ja_fill0_5 : decode cd_Ja_fill0 5 = .ok (.iload_n 2, 1) := by decide +kernel
theorem de_Ja_fill0_6 : decode cd_Ja_fill0 6 = .ok (.iload_n 3, 1) := by decide +kernel
theorem de_Ja_fill0_7 : decode cd_Ja_fill0 7 = .ok (.if_icmp .ge 13, 3) := by decide +kernel
theorem de_Ja_fill0_10 : decode cd_Ja_fill0 10 = .ok (.aload_n 0, 1) := by decide +kernel
theorem de_Ja_fill0_11 : decode cd_Ja_fill0 11 = .ok (.iload_n 2, 1) := by decide +kernel
theorem de_Ja_fill0_12 : decode cd_Ja_fill0 12 = .ok (.iload_n 1, 1) := by decide +kernel
theorem de_Ja_fill0_13 : decode cd_Ja_fill0 13 = .ok (.iastore, 1) := by decide +kernel
theorem de_Ja_fill0_14 : decode cd_Ja_fill0 14 = .ok (.iinc 2 1, 3) := by decide +kernel
theorem de_Ja_fill0_17 : decode cd_Ja_fill0 17 = .ok (.goto (-12), 3) := by decide +kernel
theorem de_Ja_fill0_20 : decode cd_Ja_fill0 20 = .ok (.return_, 1) := by decide +kernel
def jb_Ja_fill0_5 (N : Nat) : Nat → mv_M → Option Nat → Int32 → Int32 → Int32 → Option (Unit × mv_M)
  | 0, _, _, _, _, _ => none
  | n + 1, M, v0, v1, v2, v3 =>
    if v3 ≤ v2 then (some ((), M)) else
    Option.bind v0 fun a13 =>
    Option.bind (mj_ist M a13 0 v2 v1) fun Mm13 =>
    jb_Ja_fill0_5 N n Mm13 (some a13) v1 (v2 + 1) v3
def jb_Ja_fill0_0 (N : Nat) (M : mv_M) (v0 : Option Nat) (v1 : Int32) : Option (Unit × mv_M) :=
  Option.bind v0 fun a3 =>
  Option.bind (mj_len M a3 0) fun x3 =>
  jb_Ja_fill0_5 N N M (some a3) v1 0 x3
def jf_Ja_fill0 (N : Nat) (M : mv_M) (v0 : Option Nat) (v1 : Int32) : Option (Unit × mv_M) := jb_Ja_fill0_0 N M v0 v1
set_option maxHeartbeats 4000000 in
set_option maxRecDepth 100000 in
theorem tb_Ja_fill0_5 (l : Launch) (D : va_G) (E : Nat → ClassId) (B : Nat) (sa : (Nat → Nat) × Nat × (Nat → Int32)) (M0 M1 : mv_M) (r : Unit) (N : Nat) : ∀ (n : Nat) (M : mv_M) (v0 : Option Nat) (v1 : Int32) (v2 : Int32) (v3 : Int32) (hJ : jb_Ja_fill0_5 N n M v0 v1 v2 v3 = some (r, M1)), mv_G (xg l D E B sa) kd_Ja_fill0 M0 M1 none M 5 [(0, va_rf v0), (1, .int v1), (2, .int v2), (3, .int v3)] [] := by
  intro n
  induction n with
  | zero => intro M v0 v1 v2 v3 hJ; cases hJ
  | succ n ih =>
    intro M v0 v1 v2 v3 hJ
    rw [jb_Ja_fill0_5] at hJ
    refine mv_iload_n (pc := 5) (i := 2) de_Ja_fill0_5 rfl 2 rfl ?_
    refine mv_iload_n (pc := 6) (i := 3) de_Ja_fill0_6 rfl 3 rfl ?_
    refine mv_icmp_ge (pc := 7) (tgt := 20) de_Ja_fill0_7 (by decide) hJ (fun hc7 h7 => ?_) (fun hc7 h7 => ?_)
    · exact mv_vret (pc := 20) rfl de_Ja_fill0_20 h7
    · refine mv_aload_n (pc := 10) (i := 0) de_Ja_fill0_10 rfl 0 rfl ?_
      refine mv_iload_n (pc := 11) (i := 2) de_Ja_fill0_11 rfl 2 rfl ?_
      refine mv_iload_n (pc := 12) (i := 1) de_Ja_fill0_12 rfl 1 rfl ?_
      obtain ⟨a13, ha, h13a⟩ := mj_bindE h7
      subst ha
      refine mv_iast (pc := 13) (t := 0) rfl de_Ja_fill0_13 h13a (fun Mm13 e13 h13 => ?_)
      refine mv_iinc (pc := 14) (v := (v2 + 1)) (lv' := [(2, .int (v2 + 1)), (0, va_rf (some a13)), (1, .int v1), (3, .int v3)]) de_Ja_fill0_14 2 rfl rfl (Nat.le_of_ble_eq_true rfl) rfl ?_
      refine mv_goto (pc := 17) (tgt := 5) de_Ja_fill0_17 (by decide) ?_
      exact mv_sub [1, 2, 0, 3] rfl (ih Mm13 (some a13) v1 (v2 + 1) v3 h13)
set_option maxHeartbeats 4000000 in
set_option maxRecDepth 100000 in
theorem tb_Ja_fill0_0 (l : Launch) (D : va_G) (E : Nat → ClassId) (B : Nat) (sa : (Nat → Nat) × Nat × (Nat → Int32)) (M0 M1 : mv_M) (r : Unit) (N : Nat) (M : mv_M) (v0 : Option Nat) (v1 : Int32) (hJ : jb_Ja_fill0_0 N M v0 v1 = some (r, M1)) : mv_G (xg l D E B sa) kd_Ja_fill0 M0 M1 none M 0 [(0, va_rf v0), (1, .int v1)] [] := by
  unfold jb_Ja_fill0_0 at hJ
  refine mv_iconst (pc := 0) (v := 0) de_Ja_fill0_0 (by decide) ?_
  refine mv_istore_n (pc := 1) (i := 2) (lv' := [(2, .int 0), (0, va_rf v0), (1, .int v1)]) de_Ja_fill0_1 rfl (Nat.le_of_ble_eq_true rfl) rfl ?_
  refine mv_aload_n (pc := 2) (i := 0) de_Ja_fill0_2 rfl 1 rfl ?_
  obtain ⟨a3, ha, h3a⟩ := mj_bindE hJ
  subst ha
  refine mv_alen (pc := 3) (t := 0) rfl de_Ja_fill0_3 h3a (fun x3 e3 h3 => ?_)
  refine mv_istore_n (pc := 4) (i := 3) (lv' := [(3, .int x3), (2, .int 0), (0, va_rf (some a3)), (1, .int v1)]) de_Ja_fill0_4 rfl (Nat.le_of_ble_eq_true rfl) rfl ?_
  exact mv_sub [2, 3, 1, 0] rfl (tb_Ja_fill0_5 l D E B sa M0 M1 r N N M (some a3) v1 0 x3 h3)
theorem cm_Ja_fill0 (l : Launch) (D : va_G) (E : Nat → ClassId) (B : Nat) (sa : (Nat → Nat) × Nat × (Nat → Int32)) (N : Nat) (M : mv_M) (v0 : Option Nat) (v1 : Int32) (r : Unit) (M1 : mv_M) (hJ : jf_Ja_fill0 N M v0 v1 = some (r, M1)) : mv_Met (xg l D E B sa) yn_Ja_fill0 cd_Ja_fill0 4 none 0 0 [va_rf v0, .int v1] M none M1 := by
  cases v0 <;> exact mv_enter (by decide) (Nat.le_of_ble_eq_true rfl) (mv_sub [0, 1] rfl (tb_Ja_fill0_0 l D E B sa M M1 r N M _ _ hJ))
/-! ===== PlainLearner$Table.squares([I)J ===== -/
abbrev kd_Ta_squares : mv_Kd := (cd_Ta_squares, 7, "PlainLearner$Table", "squares", (some .long), 0, 0)
theorem de_Ta_squares_0 : decode cd_Ta_squares 0 = .ok (.lconst 0, 1) := by decide +kernel
theorem de_Ta_squares_1 : decode cd_Ta_squares 1 = .ok (.lstore_n 1, 1) := by decide +kernel
theorem de_Ta_squares_2 : decode cd_Ta_squares 2 = .ok (.aload_n 0, 1) := by decide +kernel
theorem de_Ta_squares_3 : decode cd_Ta_squares 3 = .ok (.astore_n 3, 1) := by decide +kernel
theorem de_Ta_squares_4 : decode cd_Ta_squares 4 = .ok (.aload_n 3, 1) := by decide +kernel
theorem de_Ta_squares_5 : decode cd_Ta_squares 5 = .ok (.arraylength, 1) := by decide +kernel
theorem de_Ta_squares_6 : decode cd_Ta_squares 6 = .ok (.istore 4, 2) := by decide +kernel
theorem de_Ta_squares_8 : decode cd_Ta_squares 8 = .ok (.iconst 0, 1) := by decide +kernel
theorem de_Ta_squares_9 : decode cd_Ta_squares 9 = .ok (.istore 5, 2) := by decide +kernel
theorem de_Ta_squares_11 : decode cd_Ta_squares 11 = .ok (.iload 5, 2) := by decide +kernel
theorem de_Ta_squares_13 : decode cd_Ta_squares 13 = .ok (.iload 4, 2) := by decide +kernel
theorem de_Ta_squares_15 : decode cd_Ta_squares 15 = .ok (.if_icmp .ge 25, 3) := by decide +kernel
theorem de_Ta_squares_18 : decode cd_Ta_squares 18 = .ok (.aload_n 3, 1) := by decide +kernel
theorem de_Ta_squares_19 : decode cd_Ta_squares 19 = .ok (.iload 5, 2) := by decide +kernel
theorem de_Ta_squares_21 : decode cd_Ta_squares 21 = .ok (.iaload, 1) := by decide +kernel
theorem de_Ta_squares_22 : decode cd_Ta_squares 22 = .ok (.istore 6, 2) := by decide +kernel
theorem de_Ta_squares_24 : decode cd_Ta_squares 24 = .ok (.lload_n 1, 1) := by decide +kernel
theorem de_Ta_squares_25 : decode cd_Ta_squares 25 = .ok (.iload 6, 2) := by decide +kernel
theorem de_Ta_squares_27 : decode cd_Ta_squares 27 = .ok (.i2l, 1) := by decide +kernel
theorem de_Ta_squares_28 : decode cd_Ta_squares 28 = .ok (.iload 6, 2) := by decide +kernel
theorem de_Ta_squares_30 : decode cd_Ta_squares 30 = .ok (.i2l, 1) := by decide +kernel
theorem de_Ta_squares_31 : decode cd_Ta_squares 31 = .ok (.lmul, 1) := by decide +kernel
theorem de_Ta_squares_32 : decode cd_Ta_squares 32 = .ok (.ladd, 1) := by decide +kernel
theorem de_Ta_squares_33 : decode cd_Ta_squares 33 = .ok (.lstore_n 1, 1) := by decide +kernel
theorem de_Ta_squares_34 : decode cd_Ta_squares 34 = .ok (.iinc 5 1, 3) := by decide +kernel
theorem de_Ta_squares_37 : decode cd_Ta_squares 37 = .ok (.goto (-26), 3) := by decide +kernel
theorem de_Ta_squares_40 : decode cd_Ta_squares 40 = .ok (.lload_n 1, 1) := by decide +kernel
theorem de_Ta_squares_41 : decode cd_Ta_squares 41 = .ok (.lreturn, 1) := by decide +kernel
def jb_Ta_squares_11 (N : Nat) : Nat → mv_M → Int64 → Option Nat → Int32 → Int32 → Option (Int64 × mv_M)
  | 0, _, _, _, _, _ => none
  | n + 1, M, v1, v3, v4, v5 =>
    if v4 ≤ v5 then (some (v1, M)) else
    Option.bind v3 fun a21 =>
    Option.bind (mj_ild M a21 0 v5) fun x21 =>
    jb_Ta_squares_11 N n M (v1 + (x21.toInt64 * x21.toInt64)) (some a21) v4 (v5 + 1)
def jb_Ta_squares_0 (N : Nat) (M : mv_M) (v0 : Option Nat) : Option (Int64 × mv_M) :=
  Option.bind v0 fun a5 =>
  Option.bind (mj_len M a5 0) fun x5 =>
  jb_Ta_squares_11 N N M 0 (some a5) x5 0
def jf_Ta_squares (N : Nat) (M : mv_M) (v0 : Option Nat) : Option (Int64 × mv_M) := jb_Ta_squares_0 N M v0
set_option maxHeartbeats 4000000 in
set_option maxRecDepth 100000 in
theorem tb_Ta_squares_11 (l : Launch) (D : va_G) (E : Nat → ClassId) (B : Nat) (sa : (Nat → Nat) × Nat × (Nat → Int32)) (M0 M1 : mv_M) (r : Int64) (N : Nat) : ∀ (n : Nat) (M : mv_M) (v1 : Int64) (v3 : Option Nat) (v4 : Int32) (v5 : Int32) (hJ : jb_Ta_squares_11 N n M v1 v3 v4 v5 = some (r, M1)), mv_G (xg l D E B sa) kd_Ta_squares M0 M1 (some (.long r)) M 11 [(1, .long v1), (3, va_rf v3), (4, .int v4), (5, .int v5)] [] := by
  intro n
  induction n with
  | zero => intro M v1 v3 v4 v5 hJ; cases hJ
  | succ n ih =>
    intro M v1 v3 v4 v5 hJ
    rw [jb_Ta_squares_11] at hJ
    refine mv_iload (pc := 11) de_Ta_squares_11 3 rfl ?_
    refine mv_iload (pc := 13) de_Ta_squares_13 2 rfl ?_
    refine mv_icmp_ge (pc := 15) (tgt := 40) de_Ta_squares_15 (by decide) hJ (fun hc15 h15 => ?_) (fun hc15 h15 => ?_)
    · refine mv_lload_n (pc := 40) (i := 1) de_Ta_squares_40 rfl 0 rfl ?_
      exact mv_lret (pc := 41) rfl de_Ta_squares_41 h15
    · refine mv_aload_n (pc := 18) (i := 3) de_Ta_squares_18 rfl 1 rfl ?_
      refine mv_iload (pc := 19) de_Ta_squares_19 3 rfl ?_
      obtain ⟨a21, ha, h21a⟩ := mj_bindE h15
      subst ha
      refine mv_iald (pc := 21) (t := 0) rfl de_Ta_squares_21 h21a (fun x21 e21 h21 => ?_)
      refine mv_istore (pc := 22) (lv' := [(6, .int x21), (1, .long v1), (3, va_rf (some a21)), (4, .int v4), (5, .int v5)]) de_Ta_squares_22 (Nat.le_of_ble_eq_true rfl) rfl ?_
      refine mv_lload_n (pc := 24) (i := 1) de_Ta_squares_24 rfl 1 rfl ?_
      refine mv_iload (pc := 25) de_Ta_squares_25 0 rfl ?_
      refine mv_i2l (pc := 27) de_Ta_squares_27 ?_
      refine mv_iload (pc := 28) de_Ta_squares_28 0 rfl ?_
      refine mv_i2l (pc := 30) de_Ta_squares_30 ?_
      refine mv_lmul (pc := 31) de_Ta_squares_31 ?_
      refine mv_ladd (pc := 32) de_Ta_squares_32 ?_
      refine mv_lstore_n (pc := 33) (i := 1) (lv' := [(1, .long (v1 + (x21.toInt64 * x21.toInt64))), (6, .int x21), (3, va_rf (some a21)), (4, .int v4), (5, .int v5)]) de_Ta_squares_33 rfl (Nat.le_of_ble_eq_true rfl) rfl ?_
      refine mv_iinc (pc := 34) (v := (v5 + 1)) (lv' := [(5, .int (v5 + 1)), (1, .long (v1 + (x21.toInt64 * x21.toInt64))), (6, .int x21), (3, va_rf (some a21)), (4, .int v4)]) de_Ta_squares_34 4 rfl rfl (Nat.le_of_ble_eq_true rfl) rfl ?_
      refine mv_goto (pc := 37) (tgt := 11) de_Ta_squares_37 (by decide) ?_
      exact mv_sub [1, 3, 4, 0] rfl (ih M (v1 + (x21.toInt64 * x21.toInt64)) (some a21) v4 (v5 + 1) h21)
set_option maxHeartbeats 4000000 in
set_option maxRecDepth 100000 in
theorem tb_Ta_squares_0 (l : Launch) (D : va_G) (E : Nat → ClassId) (B : Nat) (sa : (Nat → Nat) × Nat × (Nat → Int32)) (M0 M1 : mv_M) (r : Int64) (N : Nat) (M : mv_M) (v0 : Option Nat) (hJ : jb_Ta_squares_0 N M v0 = some (r, M1)) : mv_G (xg l D E B sa) kd_Ta_squares M0 M1 (some (.long r)) M 0 [(0, va_rf v0)] [] := by
  unfold jb_Ta_squares_0 at hJ
  refine mv_lconst (pc := 0) (v := 0) de_Ta_squares_0 (by decide) ?_
  refine mv_lstore_n (pc := 1) (i := 1) (lv' := [(1, .long 0), (0, va_rf v0)]) de_Ta_squares_1 rfl (Nat.le_of_ble_eq_true rfl) (by simp [List.filter, mv_cat]) ?_
  refine mv_aload_n (pc := 2) (i := 0) de_Ta_squares_2 rfl 1 rfl ?_
  refine mv_astore_n (pc := 3) (i := 3) (lv' := [(3, va_rf v0), (1, .long 0), (0, va_rf v0)]) de_Ta_squares_3 rfl (Nat.le_of_ble_eq_true rfl) rfl ?_
  refine mv_aload_n (pc := 4) (i := 3) de_Ta_squares_4 rfl 0 rfl ?_
  obtain ⟨a5, ha, h5a⟩ := mj_bindE hJ
  subst ha
  refine mv_alen (pc := 5) (t := 0) rfl de_Ta_squares_5 h5a (fun x5 e5 h5 => ?_)
  refine mv_istore (pc := 6) (lv' := [(4, .int x5), (3, va_rf (some a5)), (1, .long 0), (0, va_rf (some a5))]) de_Ta_squares_6 (Nat.le_of_ble_eq_true rfl) rfl ?_
  refine mv_iconst (pc := 8) (v := 0) de_Ta_squares_8 (by decide) ?_
  refine mv_istore (pc := 9) (lv' := [(5, .int 0), (4, .int x5), (3, va_rf (some a5)), (1, .long 0), (0, va_rf (some a5))]) de_Ta_squares_9 (Nat.le_of_ble_eq_true rfl) rfl ?_
  exact mv_sub [3, 2, 1, 0] rfl (tb_Ta_squares_11 l D E B sa M0 M1 r N N M 0 (some a5) x5 0 h5)
theorem cm_Ta_squares (l : Launch) (D : va_G) (E : Nat → ClassId) (B : Nat) (sa : (Nat → Nat) × Nat × (Nat → Int32)) (N : Nat) (M : mv_M) (v0 : Option Nat) (r : Int64) (M1 : mv_M) (hJ : jf_Ta_squares N M v0 = some (r, M1)) : mv_Met (xg l D E B sa) yn_Ta_squares cd_Ta_squares 7 (some .long) 0 0 [va_rf v0] M (some (.long r)) M1 := by
  cases v0 <;> exact mv_enter (by decide) (Nat.le_of_ble_eq_true rfl) (mv_sub [0] rfl (tb_Ta_squares_0 l D E B sa M M1 r N M _ hJ))
/-! ===== PlainLearner$Table.costOf(II)J ===== -/
abbrev kd_Ta_costOf : mv_Kd := (cd_Ta_costOf, 7, "PlainLearner$Table", "costOf", (some .long), 2, 55)
theorem de_Ta_costOf_0 : decode cd_Ta_costOf 0 = .ok (.aload_n 0, 1) := by decide +kernel
theorem de_Ta_costOf_1 : decode cd_Ta_costOf 1 = .ok (.getfield 18, 3) := by decide +kernel
theorem de_Ta_costOf_4 : decode cd_Ta_costOf 4 = .ok (.iconst 0, 1) := by decide +kernel
theorem de_Ta_costOf_5 : decode cd_Ta_costOf 5 = .ok (.invokestatic 32, 3) := by decide +kernel
theorem de_Ta_costOf_8 : decode cd_Ta_costOf 8 = .ok (.aload_n 0, 1) := by decide +kernel
theorem de_Ta_costOf_9 : decode cd_Ta_costOf 9 = .ok (.getfield 21, 3) := by decide +kernel
theorem de_Ta_costOf_12 : decode cd_Ta_costOf 12 = .ok (.iconst 0, 1) := by decide +kernel
theorem de_Ta_costOf_13 : decode cd_Ta_costOf 13 = .ok (.invokestatic 32, 3) := by decide +kernel
theorem de_Ta_costOf_16 : decode cd_Ta_costOf 16 = .ok (.iconst 0, 1) := by decide +kernel
theorem de_Ta_costOf_17 : decode cd_Ta_costOf 17 = .ok (.istore_n 3, 1) := by decide +kernel
theorem de_Ta_costOf_18 : decode cd_Ta_costOf 18 = .ok (.iconst 0, 1) := by decide +kernel
theorem de_Ta_costOf_19 : decode cd_Ta_costOf 19 = .ok (.istore 4, 2) := by decide +kernel
theorem de_Ta_costOf_21 : decode cd_Ta_costOf 21 = .ok (.iload 4, 2) := by decide +kernel
theorem de_Ta_costOf_23 : decode cd_Ta_costOf 23 = .ok (.aload_n 0, 1) := by decide +kernel
theorem de_Ta_costOf_24 : decode cd_Ta_costOf 24 = .ok (.getfield 28, 3) := by decide +kernel
theorem de_Ta_costOf_27 : decode cd_Ta_costOf 27 = .ok (.if_icmp .ge 62, 3) := by decide +kernel
theorem de_Ta_costOf_30 : decode cd_Ta_costOf 30 = .ok (.aload_n 0, 1) := by decide +kernel
theorem de_Ta_costOf_31 : decode cd_Ta_costOf 31 = .ok (.getfield 11, 3) := by decide +kernel
theorem de_Ta_costOf_34 : decode cd_Ta_costOf 34 = .ok (.iload 4, 2) := by decide +kernel
theorem de_Ta_costOf_36 : decode cd_Ta_costOf 36 = .ok (.iconst 4, 1) := by decide +kernel
theorem de_Ta_costOf_37 : decode cd_Ta_costOf 37 = .ok (.imul, 1) := by decide +kernel
theorem de_Ta_costOf_38 : decode cd_Ta_costOf 38 = .ok (.iload_n 1, 1) := by decide +kernel
theorem de_Ta_costOf_39 : decode cd_Ta_costOf 39 = .ok (.iadd, 1) := by decide +kernel
theorem de_Ta_costOf_40 : decode cd_Ta_costOf 40 = .ok (.iaload, 1) := by decide +kernel
theorem de_Ta_costOf_41 : decode cd_Ta_costOf 41 = .ok (.iload_n 2, 1) := by decide +kernel
theorem de_Ta_costOf_42 : decode cd_Ta_costOf 42 = .ok (.if_icmp .gt 25, 3) := by decide +kernel
theorem de_Ta_costOf_45 : decode cd_Ta_costOf 45 = .ok (.aload_n 0, 1) := by decide +kernel
theorem de_Ta_costOf_46 : decode cd_Ta_costOf 46 = .ok (.getfield 18, 3) := by decide +kernel
theorem de_Ta_costOf_49 : decode cd_Ta_costOf 49 = .ok (.aload_n 0, 1) := by decide +kernel
theorem de_Ta_costOf_50 : decode cd_Ta_costOf 50 = .ok (.getfield 15, 3) := by decide +kernel
theorem de_Ta_costOf_53 : decode cd_Ta_costOf 53 = .ok (.iload 4, 2) := by decide +kernel
theorem de_Ta_costOf_55 : decode cd_Ta_costOf 55 = .ok (.iaload, 1) := by decide +kernel
theorem de_Ta_costOf_56 : decode cd_Ta_costOf 56 = .ok (.dup2, 1) := by decide +kernel
theorem de_Ta_costOf_57 : decode cd_Ta_costOf 57 = .ok (.iaload, 1) := by decide +kernel
theorem de_Ta_costOf_58 : decode cd_Ta_costOf 58 = .ok (.iconst 1, 1) := by decide +kernel
theorem de_Ta_costOf_59 : decode cd_Ta_costOf 59 = .ok (.iadd, 1) := by decide +kernel
theorem de_Ta_costOf_60 : decode cd_Ta_costOf 60 = .ok (.iastore, 1) := by decide +kernel
theorem de_Ta_costOf_61 : decode cd_Ta_costOf 61 = .ok (.iinc 3 1, 3) := by decide +kernel
theorem de_Ta_costOf_64 : decode cd_Ta_costOf 64 = .ok (.goto 19, 3) := by decide +kernel
theorem de_Ta_costOf_67 : decode cd_Ta_costOf 67 = .ok (.aload_n 0, 1) := by decide +kernel
theorem de_Ta_costOf_68 : decode cd_Ta_costOf 68 = .ok (.getfield 21, 3) := by decide +kernel
theorem de_Ta_costOf_71 : decode cd_Ta_costOf 71 = .ok (.aload_n 0, 1) := by decide +kernel
theorem de_Ta_costOf_72 : decode cd_Ta_costOf 72 = .ok (.getfield 15, 3) := by decide +kernel
theorem de_Ta_costOf_75 : decode cd_Ta_costOf 75 = .ok (.iload 4, 2) := by decide +kernel
theorem de_Ta_costOf_77 : decode cd_Ta_costOf 77 = .ok (.iaload, 1) := by decide +kernel
theorem de_Ta_costOf_78 : decode cd_Ta_costOf 78 = .ok (.dup2, 1) := by decide +kernel
theorem de_Ta_costOf_79 : decode cd_Ta_costOf 79 = .ok (.iaload, 1) := by decide +kernel
theorem de_Ta_costOf_80 : decode cd_Ta_costOf 80 = .ok (.iconst 1, 1) := by decide +kernel
theorem de_Ta_costOf_81 : decode cd_Ta_costOf 81 = .ok (.iadd, 1) := by decide +kernel
theorem de_Ta_costOf_82 : decode cd_Ta_costOf 82 = .ok (.iastore, 1) := by decide +kernel
theorem de_Ta_costOf_83 : decode cd_Ta_costOf 83 = .ok (.iinc 4 1, 3) := by decide +kernel
theorem de_Ta_costOf_86 : decode cd_Ta_costOf 86 = .ok (.goto (-65), 3) := by decide +kernel
theorem de_Ta_costOf_89 : decode cd_Ta_costOf 89 = .ok (.aload_n 0, 1) := by decide +kernel
theorem de_Ta_costOf_90 : decode cd_Ta_costOf 90 = .ok (.getfield 28, 3) := by decide +kernel
theorem de_Ta_costOf_93 : decode cd_Ta_costOf 93 = .ok (.iload_n 3, 1) := by decide +kernel
theorem de_Ta_costOf_94 : decode cd_Ta_costOf 94 = .ok (.isub, 1) := by decide +kernel
theorem de_Ta_costOf_95 : decode cd_Ta_costOf 95 = .ok (.istore 4, 2) := by decide +kernel
theorem de_Ta_costOf_97 : decode cd_Ta_costOf 97 = .ok (.iload_n 3, 1) := by decide +kernel
theorem de_Ta_costOf_98 : decode cd_Ta_costOf 98 = .ok (.ifCond .eq 8, 3) := by decide +kernel
theorem de_Ta_costOf_101 : decode cd_Ta_costOf 101 = .ok (.iload 4, 2) := by decide +kernel
theorem de_Ta_costOf_103 : decode cd_Ta_costOf 103 = .ok (.ifCond .ne 5, 3) := by decide +kernel
theorem de_Ta_costOf_106 : decode cd_Ta_costOf 106 = .ok (.lconst 0, 1) := by decide +kernel
theorem de_Ta_costOf_107 : decode cd_Ta_costOf 107 = .ok (.lreturn, 1) := by decide +kernel
theorem de_Ta_costOf_108 : decode cd_Ta_costOf 108 = .ok (.aload_n 0, 1) := by decide +kernel
theorem de_Ta_costOf_109 : decode cd_Ta_costOf 109 = .ok (.getfield 28, 3) := by decide +kernel
theorem de_Ta_costOf_112 : decode cd_Ta_costOf 112 = .ok (.i2l, 1) := by decide +kernel
theorem de_Ta_costOf_113 : decode cd_Ta_costOf 113 = .ok (.iload_n 3, 1) := by decide +kernel
theorem de_Ta_costOf_114 : decode cd_Ta_costOf 114 = .ok (.i2l, 1) := by decide +kernel
theorem de_Ta_costOf_115 : decode cd_Ta_costOf 115 = .ok (.lmul, 1) := by decide +kernel
theorem de_Ta_costOf_116 : decode cd_Ta_costOf 116 = .ok (.iload 4, 2) := by decide +kernel
theorem de_Ta_costOf_118 : decode cd_Ta_costOf 118 = .ok (.i2l, 1) := by decide +kernel
theorem de_Ta_costOf_119 : decode cd_Ta_costOf 119 = .ok (.lmul, 1) := by decide +kernel
theorem de_Ta_costOf_120 : decode cd_Ta_costOf 120 = .ok (.lstore 5, 2) := by decide +kernel
theorem de_Ta_costOf_122 : decode cd_Ta_costOf 122 = .ok (.lload 5, 2) := by decide +kernel
theorem de_Ta_costOf_124 : decode cd_Ta_costOf 124 = .ok (.aload_n 0, 1) := by decide +kernel
theorem de_Ta_costOf_125 : decode cd_Ta_costOf 125 = .ok (.getfield 18, 3) := by decide +kernel
theorem de_Ta_costOf_128 : decode cd_Ta_costOf 128 = .ok (.invokestatic 40, 3) := by decide +kernel
theorem de_Ta_costOf_131 : decode cd_Ta_costOf 131 = .ok (.iload 4, 2) := by decide +kernel
theorem de_Ta_costOf_133 : decode cd_Ta_costOf 133 = .ok (.i2l, 1) := by decide +kernel
theorem de_Ta_costOf_134 : decode cd_Ta_costOf 134 = .ok (.lmul, 1) := by decide +kernel
theorem de_Ta_costOf_135 : decode cd_Ta_costOf 135 = .ok (.lsub, 1) := by decide +kernel
theorem de_Ta_costOf_136 : decode cd_Ta_costOf 136 = .ok (.aload_n 0, 1) := by decide +kernel
theorem de_Ta_costOf_137 : decode cd_Ta_costOf 137 = .ok (.getfield 21, 3) := by decide +kernel
theorem de_Ta_costOf_140 : decode cd_Ta_costOf 140 = .ok (.invokestatic 40, 3) := by decide +kernel
theorem de_Ta_costOf_143 : decode cd_Ta_costOf 143 = .ok (.iload_n 3, 1) := by decide +kernel
theorem de_Ta_costOf_144 : decode cd_Ta_costOf 144 = .ok (.i2l, 1) := by decide +kernel
theorem de_Ta_costOf_145 : decode cd_Ta_costOf 145 = .ok (.lmul, 1) := by decide +kernel
theorem de_Ta_costOf_146 : decode cd_Ta_costOf 146 = .ok (.lsub, 1) := by decide +kernel
theorem de_Ta_costOf_147 : decode cd_Ta_costOf 147 = .ok (.lload 5, 2) := by decide +kernel
theorem de_Ta_costOf_149 : decode cd_Ta_costOf 149 = .ok (.invokestatic 44, 3) := by decide +kernel
theorem de_Ta_costOf_152 : decode cd_Ta_costOf 152 = .ok (.lreturn, 1) := by decide +kernel
def jb_Ta_costOf_106 (N : Nat) (M : mv_M) : Option (Int64 × mv_M) :=
  some (0, M)
def jb_Ta_costOf_83 (N : Nat) (k21 : mv_M → Nat → Int32 → Int32 → Int32 → Int32 → Option (Int64 × mv_M)) (M : mv_M) (v0 : Nat) (v1 : Int32) (v2 : Int32) (v3 : Int32) (v4 : Int32) : Option (Int64 × mv_M) :=
  k21 M v0 v1 v2 v3 (v4 + 1)
def jb_Ta_costOf_21 (N : Nat) : Nat → mv_M → Nat → Int32 → Int32 → Int32 → Int32 → Option (Int64 × mv_M)
  | 0, _, _, _, _, _, _ => none
  | n + 1, M, v0, v1, v2, v3, v4 =>
    Option.bind (mj_getI M v0 6 4) fun x24 =>
    if x24 ≤ v4 then (Option.bind (mj_getI M v0 6 4) fun x90 =>
    if v3 = 0 then (jb_Ta_costOf_106 N M) else
    if (x90 - v3) = 0 then (jb_Ta_costOf_106 N M) else
    Option.bind (mj_getI M v0 6 4) fun x109 =>
    Option.bind (mj_getR M v0 6 2) fun x125 =>
    mj_call (jf_Ta_squares N M x125) fun r128 Mm128 =>
    Option.bind (mj_getR Mm128 v0 6 3) fun x137 =>
    mj_call (jf_Ta_squares N Mm128 x137) fun r140 Mm140 =>
    mj_call (jf_Fr_of N Mm140 ((((x109.toInt64 * v3.toInt64) * (x90 - v3).toInt64) - (r128 * (x90 - v3).toInt64)) - (r140 * v3.toInt64)) ((x109.toInt64 * v3.toInt64) * (x90 - v3).toInt64)) fun r149 Mm149 =>
    some (r149, Mm149)) else
    Option.bind (mj_getR M v0 6 0) fun x31 =>
    Option.bind x31 fun a40 =>
    Option.bind (mj_ild M a40 0 ((v4 * 4) + v1)) fun x40 =>
    if v2 < x40 then (Option.bind (mj_getR M v0 6 3) fun x68 =>
    Option.bind (mj_getR M v0 6 1) fun x72 =>
    Option.bind x72 fun a77 =>
    Option.bind (mj_ild M a77 0 v4) fun x77 =>
    Option.bind x68 fun a79 =>
    Option.bind (mj_ild M a79 0 x77) fun x79 =>
    Option.bind (mj_ist M a79 0 x77 (x79 + 1)) fun Mm82 =>
    jb_Ta_costOf_83 N (jb_Ta_costOf_21 N n) Mm82 v0 v1 v2 v3 v4) else
    Option.bind (mj_getR M v0 6 2) fun x46 =>
    Option.bind (mj_getR M v0 6 1) fun x50 =>
    Option.bind x50 fun a55 =>
    Option.bind (mj_ild M a55 0 v4) fun x55 =>
    Option.bind x46 fun a57 =>
    Option.bind (mj_ild M a57 0 x55) fun x57 =>
    Option.bind (mj_ist M a57 0 x55 (x57 + 1)) fun Mm60 =>
    jb_Ta_costOf_83 N (jb_Ta_costOf_21 N n) Mm60 v0 v1 v2 (v3 + 1) v4
def jb_Ta_costOf_0 (N : Nat) (M : mv_M) (v0 : Nat) (v1 : Int32) (v2 : Int32) : Option (Int64 × mv_M) :=
  Option.bind (mj_getR M v0 6 2) fun x1 =>
  mj_call (jf_Ja_fill0 N M x1 0) fun r5 Mm5 =>
  Option.bind (mj_getR Mm5 v0 6 3) fun x9 =>
  mj_call (jf_Ja_fill0 N Mm5 x9 0) fun r13 Mm13 =>
  jb_Ta_costOf_21 N N Mm13 v0 v1 v2 0 0
def jf_Ta_costOf (N : Nat) (M : mv_M) (v0 : Nat) (v1 : Int32) (v2 : Int32) : Option (Int64 × mv_M) := jb_Ta_costOf_0 N M v0 v1 v2
set_option maxHeartbeats 4000000 in
set_option maxRecDepth 100000 in
theorem tb_Ta_costOf_106 (l : Launch) (D : va_G) (E : Nat → ClassId) (B : Nat) (sa : (Nat → Nat) × Nat × (Nat → Int32)) (M0 M1 : mv_M) (r : Int64) (N : Nat) (M : mv_M) (hJ : jb_Ta_costOf_106 N M = some (r, M1)) : mv_G (xg l D E B sa) kd_Ta_costOf M0 M1 (some (.long r)) M 106 [] [] := by
  unfold jb_Ta_costOf_106 at hJ
  refine mv_lconst (pc := 106) (v := 0) de_Ta_costOf_106 (by decide) ?_
  exact mv_lret (pc := 107) rfl de_Ta_costOf_107 hJ
set_option maxHeartbeats 4000000 in
set_option maxRecDepth 100000 in
theorem tb_Ta_costOf_83 (l : Launch) (D : va_G) (E : Nat → ClassId) (B : Nat) (sa : (Nat → Nat) × Nat × (Nat → Int32)) (M0 M1 : mv_M) (r : Int64) (N : Nat) (k21 : mv_M → Nat → Int32 → Int32 → Int32 → Int32 → Option (Int64 × mv_M)) (hk21 : ∀ (M : mv_M) (v0 : Nat) (v1 : Int32) (v2 : Int32) (v3 : Int32) (v4 : Int32), k21 M v0 v1 v2 v3 v4 = some (r, M1) → mv_G (xg l D E B sa) kd_Ta_costOf M0 M1 (some (.long r)) M 21 [(0, va_rf (some v0)), (1, .int v1), (2, .int v2), (3, .int v3), (4, .int v4)] []) (M : mv_M) (v0 : Nat) (v1 : Int32) (v2 : Int32) (v3 : Int32) (v4 : Int32) (hJ : jb_Ta_costOf_83 N k21 M v0 v1 v2 v3 v4 = some (r, M1)) : mv_G (xg l D E B sa) kd_Ta_costOf M0 M1 (some (.long r)) M 83 [(0, va_rf (some v0)), (1, .int v1), (2, .int v2), (3, .int v3), (4, .int v4)] [] := by
  unfold jb_Ta_costOf_83 at hJ
  refine mv_iinc (pc := 83) (v := (v4 + 1)) (lv' := [(4, .int (v4 + 1)), (0, va_rf (some v0)), (1, .int v1), (2, .int v2), (3, .int v3)]) de_Ta_costOf_83 4 rfl rfl (Nat.le_of_ble_eq_true rfl) rfl ?_
  refine mv_goto (pc := 86) (tgt := 21) de_Ta_costOf_86 (by decide) ?_
  exact mv_sub [1, 2, 3, 4, 0] rfl (hk21 M v0 v1 v2 v3 (v4 + 1) hJ)
set_option maxHeartbeats 4000000 in
set_option maxRecDepth 100000 in
theorem tb_Ta_costOf_21 (l : Launch) (D : va_G) (E : Nat → ClassId) (B : Nat) (sa : (Nat → Nat) × Nat × (Nat → Int32)) (M0 M1 : mv_M) (r : Int64) (N : Nat) : ∀ (n : Nat) (M : mv_M) (v0 : Nat) (v1 : Int32) (v2 : Int32) (v3 : Int32) (v4 : Int32) (hJ : jb_Ta_costOf_21 N n M v0 v1 v2 v3 v4 = some (r, M1)), mv_G (xg l D E B sa) kd_Ta_costOf M0 M1 (some (.long r)) M 21 [(0, va_rf (some v0)), (1, .int v1), (2, .int v2), (3, .int v3), (4, .int v4)] [] := by
  intro n
  induction n with
  | zero => intro M v0 v1 v2 v3 v4 hJ; cases hJ
  | succ n ih =>
    intro M v0 v1 v2 v3 v4 hJ
    rw [jb_Ta_costOf_21] at hJ
    refine mv_iload (pc := 21) de_Ta_costOf_21 4 rfl ?_
    refine mv_aload_n (pc := 23) (i := 0) de_Ta_costOf_23 rfl 0 rfl ?_
    refine mv_getI (pc := 24) (f := 4) (kc_6 l D E B sa) (Nat.le_of_ble_eq_true rfl) wt_1_70 de_Ta_costOf_24 hJ (fun x24 e24 h24 => ?_)
    refine mv_icmp_ge (pc := 27) (tgt := 89) de_Ta_costOf_27 (by decide) h24 (fun hc27 h27 => ?_) (fun hc27 h27 => ?_)
    · refine mv_aload_n (pc := 89) (i := 0) de_Ta_costOf_89 rfl 0 rfl ?_
      refine mv_getI (pc := 90) (f := 4) (kc_6 l D E B sa) (Nat.le_of_ble_eq_true rfl) wt_1_70 de_Ta_costOf_90 h27 (fun x90 e90 h90 => ?_)
      refine mv_iload_n (pc := 93) (i := 3) de_Ta_costOf_93 rfl 3 rfl ?_
      refine mv_isub (pc := 94) de_Ta_costOf_94 ?_
      refine mv_istore (pc := 95) (lv' := [(4, .int (x90 - v3)), (0, va_rf (some v0)), (1, .int v1), (2, .int v2), (3, .int v3)]) de_Ta_costOf_95 (Nat.le_of_ble_eq_true rfl) rfl ?_
      refine mv_iload_n (pc := 97) (i := 3) de_Ta_costOf_97 rfl 4 rfl ?_
      refine mv_if_eq (pc := 98) (tgt := 106) de_Ta_costOf_98 (by decide) h90 (fun hc98 h98 => ?_) (fun hc98 h98 => ?_)
      · exact mv_sub [] rfl (tb_Ta_costOf_106 l D E B sa M0 M1 r N M h98)
      · refine mv_iload (pc := 101) de_Ta_costOf_101 0 rfl ?_
        refine mv_if_ne (pc := 103) (tgt := 108) de_Ta_costOf_103 (by decide) h98 (fun hc103 h103 => ?_) (fun hc103 h103 => ?_)
        · exact mv_sub [] rfl (tb_Ta_costOf_106 l D E B sa M0 M1 r N M h103)
        · refine mv_aload_n (pc := 108) (i := 0) de_Ta_costOf_108 rfl 1 rfl ?_
          refine mv_getI (pc := 109) (f := 4) (kc_6 l D E B sa) (Nat.le_of_ble_eq_true rfl) wt_1_70 de_Ta_costOf_109 h103 (fun x109 e109 h109 => ?_)
          refine mv_i2l (pc := 112) de_Ta_costOf_112 ?_
          refine mv_iload_n (pc := 113) (i := 3) de_Ta_costOf_113 rfl 4 rfl ?_
          refine mv_i2l (pc := 114) de_Ta_costOf_114 ?_
          refine mv_lmul (pc := 115) de_Ta_costOf_115 ?_
          refine mv_iload (pc := 116) de_Ta_costOf_116 0 rfl ?_
          refine mv_i2l (pc := 118) de_Ta_costOf_118 ?_
          refine mv_lmul (pc := 119) de_Ta_costOf_119 ?_
          refine mv_lstore (pc := 120) (lv' := [(5, .long ((x109.toInt64 * v3.toInt64) * (x90 - v3).toInt64)), (4, .int (x90 - v3)), (0, va_rf (some v0)), (1, .int v1), (2, .int v2), (3, .int v3)]) de_Ta_costOf_120 (Nat.le_of_ble_eq_true rfl) rfl ?_
          refine mv_lload (pc := 122) de_Ta_costOf_122 0 rfl ?_
          refine mv_aload_n (pc := 124) (i := 0) de_Ta_costOf_124 rfl 2 rfl ?_
          refine mv_getR (pc := 125) (f := 2) (kc_6 l D E B sa) (Nat.le_of_ble_eq_true rfl) wt_1_68 de_Ta_costOf_125 h109 (fun x125 e125 h125 => ?_)
          obtain ⟨r128, Mm128, hz128, h128⟩ := mj_callE h125
          refine mv_callS (pc := 128) (n := 1) (av := [va_rf x125]) (rest := [.long ((x109.toInt64 * v3.toInt64) * (x90 - v3).toInt64)]) de_Ta_costOf_128 (cm_Ta_squares l D E B sa N M x125 _ _ hz128) wt_3_105 wt_3_106 wt_1_4 wt_3_107 ⟨by decide, by decide, by decide +kernel⟩ rfl ⟨Nat.le_of_ble_eq_true rfl, Nat.le_of_ble_eq_true rfl⟩ (Nat.le_of_ble_eq_true rfl) rfl ?_
          refine mv_iload (pc := 131) de_Ta_costOf_131 1 rfl ?_
          refine mv_i2l (pc := 133) de_Ta_costOf_133 ?_
          refine mv_lmul (pc := 134) de_Ta_costOf_134 ?_
          refine mv_lsub (pc := 135) de_Ta_costOf_135 ?_
          refine mv_aload_n (pc := 136) (i := 0) de_Ta_costOf_136 rfl 2 rfl ?_
          refine mv_getR (pc := 137) (f := 3) (kc_6 l D E B sa) (Nat.le_of_ble_eq_true rfl) wt_1_69 de_Ta_costOf_137 h128 (fun x137 e137 h137 => ?_)
          obtain ⟨r140, Mm140, hz140, h140⟩ := mj_callE h137
          refine mv_callS (pc := 140) (n := 1) (av := [va_rf x137]) (rest := [.long (((x109.toInt64 * v3.toInt64) * (x90 - v3).toInt64) - (r128 * (x90 - v3).toInt64))]) de_Ta_costOf_140 (cm_Ta_squares l D E B sa N Mm128 x137 _ _ hz140) wt_3_105 wt_3_106 wt_1_4 wt_3_107 ⟨by decide, by decide, by decide +kernel⟩ rfl ⟨Nat.le_of_ble_eq_true rfl, Nat.le_of_ble_eq_true rfl⟩ (Nat.le_of_ble_eq_true rfl) rfl ?_
          refine mv_iload_n (pc := 143) (i := 3) de_Ta_costOf_143 rfl 5 rfl ?_
          refine mv_i2l (pc := 144) de_Ta_costOf_144 ?_
          refine mv_lmul (pc := 145) de_Ta_costOf_145 ?_
          refine mv_lsub (pc := 146) de_Ta_costOf_146 ?_
          refine mv_lload (pc := 147) de_Ta_costOf_147 0 rfl ?_
          obtain ⟨r149, Mm149, hz149, h149⟩ := mj_callE h140
          refine mv_callS (pc := 149) (n := 2) (av := [.long ((((x109.toInt64 * v3.toInt64) * (x90 - v3).toInt64) - (r128 * (x90 - v3).toInt64)) - (r140 * v3.toInt64)), .long ((x109.toInt64 * v3.toInt64) * (x90 - v3).toInt64)]) (rest := []) de_Ta_costOf_149 (cm_Fr_of l D E B sa N Mm140 ((((x109.toInt64 * v3.toInt64) * (x90 - v3).toInt64) - (r128 * (x90 - v3).toInt64)) - (r140 * v3.toInt64)) ((x109.toInt64 * v3.toInt64) * (x90 - v3).toInt64) _ _ hz149) wt_3_108 wt_1_35 wt_1_3 wt_1_36 ⟨by decide, by decide, by decide +kernel⟩ rfl ⟨Nat.le_of_ble_eq_true rfl, Nat.le_of_ble_eq_true rfl⟩ (Nat.le_of_ble_eq_true rfl) rfl ?_
          exact mv_lret (pc := 152) rfl de_Ta_costOf_152 h149
    · refine mv_aload_n (pc := 30) (i := 0) de_Ta_costOf_30 rfl 0 rfl ?_
      refine mv_getR (pc := 31) (f := 0) (kc_6 l D E B sa) (Nat.le_of_ble_eq_true rfl) wt_1_66 de_Ta_costOf_31 h27 (fun x31 e31 h31 => ?_)
      refine mv_iload (pc := 34) de_Ta_costOf_34 4 rfl ?_
      refine mv_iconst (pc := 36) (v := 4) de_Ta_costOf_36 (by decide) ?_
      refine mv_imul (pc := 37) de_Ta_costOf_37 ?_
      refine mv_iload_n (pc := 38) (i := 1) de_Ta_costOf_38 rfl 1 rfl ?_
      refine mv_iadd (pc := 39) de_Ta_costOf_39 ?_
      obtain ⟨a40, ha, h40a⟩ := mj_bindE h31
      subst ha
      refine mv_iald (pc := 40) (t := 0) rfl de_Ta_costOf_40 h40a (fun x40 e40 h40 => ?_)
      refine mv_iload_n (pc := 41) (i := 2) de_Ta_costOf_41 rfl 2 rfl ?_
      refine mv_icmp_gt (pc := 42) (tgt := 67) de_Ta_costOf_42 (by decide) h40 (fun hc42 h42 => ?_) (fun hc42 h42 => ?_)
      · refine mv_aload_n (pc := 67) (i := 0) de_Ta_costOf_67 rfl 0 rfl ?_
        refine mv_getR (pc := 68) (f := 3) (kc_6 l D E B sa) (Nat.le_of_ble_eq_true rfl) wt_1_69 de_Ta_costOf_68 h42 (fun x68 e68 h68 => ?_)
        refine mv_aload_n (pc := 71) (i := 0) de_Ta_costOf_71 rfl 0 rfl ?_
        refine mv_getR (pc := 72) (f := 1) (kc_6 l D E B sa) (Nat.le_of_ble_eq_true rfl) wt_1_67 de_Ta_costOf_72 h68 (fun x72 e72 h72 => ?_)
        refine mv_iload (pc := 75) de_Ta_costOf_75 4 rfl ?_
        obtain ⟨a77, ha, h77a⟩ := mj_bindE h72
        subst ha
        refine mv_iald (pc := 77) (t := 0) rfl de_Ta_costOf_77 h77a (fun x77 e77 h77 => ?_)
        refine mv_dup2_11 (pc := 78) de_Ta_costOf_78 rfl (mv_cat _) ?_
        obtain ⟨a79, ha, h79a⟩ := mj_bindE h77
        subst ha
        refine mv_iald (pc := 79) (t := 0) rfl de_Ta_costOf_79 h79a (fun x79 e79 h79 => ?_)
        refine mv_iconst (pc := 80) (v := 1) de_Ta_costOf_80 (by decide) ?_
        refine mv_iadd (pc := 81) de_Ta_costOf_81 ?_
        refine mv_iast (pc := 82) (t := 0) rfl de_Ta_costOf_82 h79 (fun Mm82 e82 h82 => ?_)
        exact mv_sub [0, 1, 2, 3, 4] rfl (tb_Ta_costOf_83 l D E B sa M0 M1 r N (jb_Ta_costOf_21 N n) ih Mm82 v0 v1 v2 v3 v4 h82)
      · refine mv_aload_n (pc := 45) (i := 0) de_Ta_costOf_45 rfl 0 rfl ?_
        refine mv_getR (pc := 46) (f := 2) (kc_6 l D E B sa) (Nat.le_of_ble_eq_true rfl) wt_1_68 de_Ta_costOf_46 h42 (fun x46 e46 h46 => ?_)
        refine mv_aload_n (pc := 49) (i := 0) de_Ta_costOf_49 rfl 0 rfl ?_
        refine mv_getR (pc := 50) (f := 1) (kc_6 l D E B sa) (Nat.le_of_ble_eq_true rfl) wt_1_67 de_Ta_costOf_50 h46 (fun x50 e50 h50 => ?_)
        refine mv_iload (pc := 53) de_Ta_costOf_53 4 rfl ?_
        obtain ⟨a55, ha, h55a⟩ := mj_bindE h50
        subst ha
        refine mv_iald (pc := 55) (t := 0) rfl de_Ta_costOf_55 h55a (fun x55 e55 h55 => ?_)
        refine mv_dup2_11 (pc := 56) de_Ta_costOf_56 rfl (mv_cat _) ?_
        obtain ⟨a57, ha, h57a⟩ := mj_bindE h55
        subst ha
        refine mv_iald (pc := 57) (t := 0) rfl de_Ta_costOf_57 h57a (fun x57 e57 h57 => ?_)
        refine mv_iconst (pc := 58) (v := 1) de_Ta_costOf_58 (by decide) ?_
        refine mv_iadd (pc := 59) de_Ta_costOf_59 ?_
        refine mv_iast (pc := 60) (t := 0) rfl de_Ta_costOf_60 h57 (fun Mm60 e60 h60 => ?_)
        refine mv_iinc (pc := 61) (v := (v3 + 1)) (lv' := [(3, .int (v3 + 1)), (0, va_rf (some v0)), (1, .int v1), (2, .int v2), (4, .int v4)]) de_Ta_costOf_61 3 rfl rfl (Nat.le_of_ble_eq_true rfl) rfl ?_
        refine mv_goto (pc := 64) (tgt := 83) de_Ta_costOf_64 (by decide) ?_
        exact mv_sub [1, 2, 3, 0, 4] rfl (tb_Ta_costOf_83 l D E B sa M0 M1 r N (jb_Ta_costOf_21 N n) ih Mm60 v0 v1 v2 (v3 + 1) v4 h60)
set_option maxHeartbeats 4000000 in
set_option maxRecDepth 100000 in
theorem tb_Ta_costOf_0 (l : Launch) (D : va_G) (E : Nat → ClassId) (B : Nat) (sa : (Nat → Nat) × Nat × (Nat → Int32)) (M0 M1 : mv_M) (r : Int64) (N : Nat) (M : mv_M) (v0 : Nat) (v1 : Int32) (v2 : Int32) (hJ : jb_Ta_costOf_0 N M v0 v1 v2 = some (r, M1)) : mv_G (xg l D E B sa) kd_Ta_costOf M0 M1 (some (.long r)) M 0 [(0, va_rf (some v0)), (1, .int v1), (2, .int v2)] [] := by
  unfold jb_Ta_costOf_0 at hJ
  refine mv_aload_n (pc := 0) (i := 0) de_Ta_costOf_0 rfl 0 rfl ?_
  refine mv_getR (pc := 1) (f := 2) (kc_6 l D E B sa) (Nat.le_of_ble_eq_true rfl) wt_1_68 de_Ta_costOf_1 hJ (fun x1 e1 h1 => ?_)
  refine mv_iconst (pc := 4) (v := 0) de_Ta_costOf_4 (by decide) ?_
  obtain ⟨r5, Mm5, hz5, h5⟩ := mj_callE h1
  refine mv_callS (pc := 5) (n := 2) (av := [va_rf x1, .int 0]) (rest := []) de_Ta_costOf_5 (cm_Ja_fill0 l D E B sa N M x1 0 _ _ hz5) wt_3_102 wt_3_103 wt_1_11 wt_3_104 ⟨by decide, by decide, by decide +kernel⟩ rfl ⟨Nat.le_of_ble_eq_true rfl, Nat.le_of_ble_eq_true rfl⟩ (Nat.le_of_ble_eq_true rfl) rfl ?_
  refine mv_aload_n (pc := 8) (i := 0) de_Ta_costOf_8 rfl 0 rfl ?_
  refine mv_getR (pc := 9) (f := 3) (kc_6 l D E B sa) (Nat.le_of_ble_eq_true rfl) wt_1_69 de_Ta_costOf_9 h5 (fun x9 e9 h9 => ?_)
  refine mv_iconst (pc := 12) (v := 0) de_Ta_costOf_12 (by decide) ?_
  obtain ⟨r13, Mm13, hz13, h13⟩ := mj_callE h9
  refine mv_callS (pc := 13) (n := 2) (av := [va_rf x9, .int 0]) (rest := []) de_Ta_costOf_13 (cm_Ja_fill0 l D E B sa N Mm5 x9 0 _ _ hz13) wt_3_102 wt_3_103 wt_1_11 wt_3_104 ⟨by decide, by decide, by decide +kernel⟩ rfl ⟨Nat.le_of_ble_eq_true rfl, Nat.le_of_ble_eq_true rfl⟩ (Nat.le_of_ble_eq_true rfl) rfl ?_
  refine mv_iconst (pc := 16) (v := 0) de_Ta_costOf_16 (by decide) ?_
  refine mv_istore_n (pc := 17) (i := 3) (lv' := [(3, .int 0), (0, va_rf (some v0)), (1, .int v1), (2, .int v2)]) de_Ta_costOf_17 rfl (Nat.le_of_ble_eq_true rfl) rfl ?_
  refine mv_iconst (pc := 18) (v := 0) de_Ta_costOf_18 (by decide) ?_
  refine mv_istore (pc := 19) (lv' := [(4, .int 0), (3, .int 0), (0, va_rf (some v0)), (1, .int v1), (2, .int v2)]) de_Ta_costOf_19 (Nat.le_of_ble_eq_true rfl) rfl ?_
  exact mv_sub [2, 3, 4, 1, 0] rfl (tb_Ta_costOf_21 l D E B sa M0 M1 r N N Mm13 v0 v1 v2 0 0 h13)
theorem cm_Ta_costOf (l : Launch) (D : va_G) (E : Nat → ClassId) (B : Nat) (sa : (Nat → Nat) × Nat × (Nat → Int32)) (N : Nat) (M : mv_M) (v0 : Nat) (v1 : Int32) (v2 : Int32) (r : Int64) (M1 : mv_M) (hJ : jf_Ta_costOf N M v0 v1 v2 = some (r, M1)) : mv_Met (xg l D E B sa) yn_Ta_costOf cd_Ta_costOf 7 (some .long) 2 55 [va_rf (some v0), .int v1, .int v2] M (some (.long r)) M1 :=
  mv_enter (by decide) (Nat.le_of_ble_eq_true rfl) (mv_sub (lv := [(0, va_rf (some v0)), (1, .int v1), (2, .int v2)]) [0, 1, 2] rfl (tb_Ta_costOf_0 l D E B sa M M1 r N M v0 v1 v2 hJ))
/-! ===== PlainLearner$Table.isLess(JJ)Z ===== -/
abbrev kd_Ta_isLess : mv_Kd := (cd_Ta_isLess, 4, "PlainLearner$Table", "isLess", (some .boolean), 2, 46)
theorem de_Ta_isLess_0 : decode cd_Ta_isLess 0 = .ok (.lload_n 0, 1) := by decide +kernel
theorem de_Ta_isLess_1 : decode cd_Ta_isLess 1 = .ok (.lconst 0, 1) := by decide +kernel
theorem de_Ta_isLess_2 : decode cd_Ta_isLess 2 = .ok (.lcmp, 1) := by decide +kernel
theorem de_Ta_isLess_3 : decode cd_Ta_isLess 3 = .ok (.ifCond .eq 21, 3) := by decide +kernel
theorem de_Ta_isLess_6 : decode cd_Ta_isLess 6 = .ok (.lload_n 2, 1) := by decide +kernel
theorem de_Ta_isLess_7 : decode cd_Ta_isLess 7 = .ok (.lconst 0, 1) := by decide +kernel
theorem de_Ta_isLess_8 : decode cd_Ta_isLess 8 = .ok (.lcmp, 1) := by decide +kernel
theorem de_Ta_isLess_9 : decode cd_Ta_isLess 9 = .ok (.ifCond .eq 11, 3) := by decide +kernel
theorem de_Ta_isLess_12 : decode cd_Ta_isLess 12 = .ok (.lload_n 0, 1) := by decide +kernel
theorem de_Ta_isLess_13 : decode cd_Ta_isLess 13 = .ok (.lload_n 2, 1) := by decide +kernel
theorem de_Ta_isLess_14 : decode cd_Ta_isLess 14 = .ok (.invokestatic 60, 3) := by decide +kernel
theorem de_Ta_isLess_17 : decode cd_Ta_isLess 17 = .ok (.ifCond .ge 7, 3) := by decide +kernel
theorem de_Ta_isLess_20 : decode cd_Ta_isLess 20 = .ok (.iconst 1, 1) := by decide +kernel
theorem de_Ta_isLess_21 : decode cd_Ta_isLess 21 = .ok (.goto 4, 3) := by decide +kernel
theorem de_Ta_isLess_24 : decode cd_Ta_isLess 24 = .ok (.iconst 0, 1) := by decide +kernel
theorem de_Ta_isLess_25 : decode cd_Ta_isLess 25 = .ok (.ireturn, 1) := by decide +kernel
def jb_Ta_isLess_25 (N : Nat) (M : mv_M) (s0 : Int32) : Option (Int32 × mv_M) :=
  if s0 = 0 ∨ s0 = 1 then some (s0, M) else none
def jb_Ta_isLess_24 (N : Nat) (M : mv_M) : Option (Int32 × mv_M) :=
  jb_Ta_isLess_25 N M 0
def jb_Ta_isLess_20 (N : Nat) (M : mv_M) : Option (Int32 × mv_M) :=
  jb_Ta_isLess_25 N M 1
def jb_Ta_isLess_0 (N : Nat) (M : mv_M) (v0 : Int64) (v2 : Int64) : Option (Int32 × mv_M) :=
  if (lg_cmp v0 0) = 0 then (jb_Ta_isLess_24 N M) else
  if (lg_cmp v2 0) = 0 then (jb_Ta_isLess_20 N M) else
  mj_call (jf_Fr_compare N M v0 v2) fun r14 Mm14 =>
  if 0 ≤ r14 then (jb_Ta_isLess_24 N Mm14) else
  jb_Ta_isLess_20 N Mm14
def jf_Ta_isLess (N : Nat) (M : mv_M) (v0 : Int64) (v2 : Int64) : Option (Int32 × mv_M) := jb_Ta_isLess_0 N M v0 v2
set_option maxHeartbeats 4000000 in
set_option maxRecDepth 100000 in
theorem tb_Ta_isLess_25 (l : Launch) (D : va_G) (E : Nat → ClassId) (B : Nat) (sa : (Nat → Nat) × Nat × (Nat → Int32)) (M0 M1 : mv_M) (r : Int32) (N : Nat) (M : mv_M) (s0 : Int32) (hJ : jb_Ta_isLess_25 N M s0 = some (r, M1)) : mv_G (xg l D E B sa) kd_Ta_isLess M0 M1 (some (.int r)) M 25 [] [.int s0] := by
  unfold jb_Ta_isLess_25 at hJ
  exact mv_zret (pc := 25) rfl de_Ta_isLess_25 hJ
set_option maxHeartbeats 4000000 in
set_option maxRecDepth 100000 in
theorem tb_Ta_isLess_24 (l : Launch) (D : va_G) (E : Nat → ClassId) (B : Nat) (sa : (Nat → Nat) × Nat × (Nat → Int32)) (M0 M1 : mv_M) (r : Int32) (N : Nat) (M : mv_M) (hJ : jb_Ta_isLess_24 N M = some (r, M1)) : mv_G (xg l D E B sa) kd_Ta_isLess M0 M1 (some (.int r)) M 24 [] [] := by
  unfold jb_Ta_isLess_24 at hJ
  refine mv_iconst (pc := 24) (v := 0) de_Ta_isLess_24 (by decide) ?_
  exact mv_sub [] rfl (tb_Ta_isLess_25 l D E B sa M0 M1 r N M 0 hJ)
set_option maxHeartbeats 4000000 in
set_option maxRecDepth 100000 in
theorem tb_Ta_isLess_20 (l : Launch) (D : va_G) (E : Nat → ClassId) (B : Nat) (sa : (Nat → Nat) × Nat × (Nat → Int32)) (M0 M1 : mv_M) (r : Int32) (N : Nat) (M : mv_M) (hJ : jb_Ta_isLess_20 N M = some (r, M1)) : mv_G (xg l D E B sa) kd_Ta_isLess M0 M1 (some (.int r)) M 20 [] [] := by
  unfold jb_Ta_isLess_20 at hJ
  refine mv_iconst (pc := 20) (v := 1) de_Ta_isLess_20 (by decide) ?_
  refine mv_goto (pc := 21) (tgt := 25) de_Ta_isLess_21 (by decide) ?_
  exact mv_sub [] rfl (tb_Ta_isLess_25 l D E B sa M0 M1 r N M 1 hJ)
set_option maxHeartbeats 4000000 in
set_option maxRecDepth 100000 in
theorem tb_Ta_isLess_0 (l : Launch) (D : va_G) (E : Nat → ClassId) (B : Nat) (sa : (Nat → Nat) × Nat × (Nat → Int32)) (M0 M1 : mv_M) (r : Int32) (N : Nat) (M : mv_M) (v0 : Int64) (v2 : Int64) (hJ : jb_Ta_isLess_0 N M v0 v2 = some (r, M1)) : mv_G (xg l D E B sa) kd_Ta_isLess M0 M1 (some (.int r)) M 0 [(0, .long v0), (2, .long v2)] [] := by
  unfold jb_Ta_isLess_0 at hJ
  refine mv_lload_n (pc := 0) (i := 0) de_Ta_isLess_0 rfl 0 rfl ?_
  refine mv_lconst (pc := 1) (v := 0) de_Ta_isLess_1 (by decide) ?_
  refine mv_lcmp (pc := 2) de_Ta_isLess_2 ?_
  refine mv_if_eq (pc := 3) (tgt := 24) de_Ta_isLess_3 (by decide) hJ (fun hc3 h3 => ?_) (fun hc3 h3 => ?_)
  · exact mv_sub [] rfl (tb_Ta_isLess_24 l D E B sa M0 M1 r N M h3)
  · refine mv_lload_n (pc := 6) (i := 2) de_Ta_isLess_6 rfl 1 rfl ?_
    refine mv_lconst (pc := 7) (v := 0) de_Ta_isLess_7 (by decide) ?_
    refine mv_lcmp (pc := 8) de_Ta_isLess_8 ?_
    refine mv_if_eq (pc := 9) (tgt := 20) de_Ta_isLess_9 (by decide) h3 (fun hc9 h9 => ?_) (fun hc9 h9 => ?_)
    · exact mv_sub [] rfl (tb_Ta_isLess_20 l D E B sa M0 M1 r N M h9)
    · refine mv_lload_n (pc := 12) (i := 0) de_Ta_isLess_12 rfl 0 rfl ?_
      refine mv_lload_n (pc := 13) (i := 2) de_Ta_isLess_13 rfl 1 rfl ?_
      obtain ⟨r14, Mm14, hz14, h14⟩ := mj_callE h9
      refine mv_callS (pc := 14) (n := 2) (av := [.long v0, .long v2]) (rest := []) de_Ta_isLess_14 (cm_Fr_compare l D E B sa N M v0 v2 _ _ hz14) wt_3_112 wt_2_190 wt_1_3 wt_2_191 ⟨by decide, by decide, by decide +kernel⟩ rfl ⟨Nat.le_of_ble_eq_true rfl, Nat.le_of_ble_eq_true rfl⟩ (Nat.le_of_ble_eq_true rfl) rfl ?_
      refine mv_if_ge (pc := 17) (tgt := 24) de_Ta_isLess_17 (by decide) h14 (fun hc17 h17 => ?_) (fun hc17 h17 => ?_)
      · exact mv_sub [] rfl (tb_Ta_isLess_24 l D E B sa M0 M1 r N Mm14 h17)
      · exact mv_sub [] rfl (tb_Ta_isLess_20 l D E B sa M0 M1 r N Mm14 h17)
theorem cm_Ta_isLess (l : Launch) (D : va_G) (E : Nat → ClassId) (B : Nat) (sa : (Nat → Nat) × Nat × (Nat → Int32)) (N : Nat) (M : mv_M) (v0 : Int64) (v2 : Int64) (r : Int32) (M1 : mv_M) (hJ : jf_Ta_isLess N M v0 v2 = some (r, M1)) : mv_Met (xg l D E B sa) yn_Ta_isLess cd_Ta_isLess 4 (some .boolean) 2 46 [.long v0, .long v2] M (some (.int r)) M1 :=
  mv_enter (by decide) (Nat.le_of_ble_eq_true rfl) (mv_sub (lv := [(0, .long v0), (2, .long v2)]) [0, 1] rfl (tb_Ta_isLess_0 l D E B sa M M1 r N M v0 v2 hJ))
