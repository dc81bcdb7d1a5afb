/-! ===== PlainLearnerModel.plus(JJJJ)V ===== -/
abbrev kd_PM_plus : mv_Kd := (cd_PM_plus, 9, "PlainLearnerModel", "plus", none, 1, 30)
theorem de_PM_plus_0 : decode cd_PM_plus 0 = .ok (.lload_n 3, 1) := by decide +kernel
theorem de_PM_plus_1 : decode cd_PM_plus 1 = .ok (.lconst 0, 1) := by decide +kernel
theorem de_PM_plus_2 : decode cd_PM_plus 2 = .ok (.lcmp, 1) := by decide +kernel
theorem de_PM_plus_3 : decode cd_PM_plus 3 = .ok (.ifCond .eq 10, 3) := by decide +kernel
theorem de_PM_plus_6 : decode cd_PM_plus 6 = .ok (.lload 7, 2) := by decide +kernel
theorem de_PM_plus_8 : decode cd_PM_plus 8 = .ok (.lconst 0, 1) := by decide +kernel
theorem de_PM_plus_9 : decode cd_PM_plus 9 = .ok (.lcmp, 1) := by decide +kernel
theorem de_PM_plus_10 : decode cd_PM_plus 10 = .ok (.ifCond .ne 12, 3) := by decide +kernel
theorem de_PM_plus_13 : decode cd_PM_plus 13 = .ok (.aload_n 0, 1) := by decide +kernel
theorem de_PM_plus_14 : decode cd_PM_plus 14 = .ok (.lconst 0, 1) := by decide +kernel
theorem de_PM_plus_15 : decode cd_PM_plus 15 = .ok (.lconst 0, 1) := by decide +kernel
theorem de_PM_plus_16 : decode cd_PM_plus 16 = .ok (.invokevirtual 91, 3) := by decide +kernel
theorem de_PM_plus_19 : decode cd_PM_plus 19 = .ok (.goto 20, 3) := by decide +kernel
theorem de_PM_plus_22 : decode cd_PM_plus 22 = .ok (.aload_n 0, 1) := by decide +kernel
theorem de_PM_plus_23 : decode cd_PM_plus 23 = .ok (.lload_n 1, 1) := by decide +kernel
theorem de_PM_plus_24 : decode cd_PM_plus 24 = .ok (.lload 7, 2) := by decide +kernel
theorem de_PM_plus_26 : decode cd_PM_plus 26 = .ok (.lmul, 1) := by decide +kernel
theorem de_PM_plus_27 : decode cd_PM_plus 27 = .ok (.lload 5, 2) := by decide +kernel
theorem de_PM_plus_29 : decode cd_PM_plus 29 = .ok (.lload_n 3, 1) := by decide +kernel
theorem de_PM_plus_30 : decode cd_PM_plus 30 = .ok (.lmul, 1) := by decide +kernel
theorem de_PM_plus_31 : decode cd_PM_plus 31 = .ok (.ladd, 1) := by decide +kernel
theorem de_PM_plus_32 : decode cd_PM_plus 32 = .ok (.lload_n 3, 1) := by decide +kernel
theorem de_PM_plus_33 : decode cd_PM_plus 33 = .ok (.lload 7, 2) := by decide +kernel
theorem de_PM_plus_35 : decode cd_PM_plus 35 = .ok (.lmul, 1) := by decide +kernel
theorem de_PM_plus_36 : decode cd_PM_plus 36 = .ok (.invokevirtual 91, 3) := by decide +kernel
theorem de_PM_plus_39 : decode cd_PM_plus 39 = .ok (.return_, 1) := by decide +kernel
def jb_PM_plus_39 (N : Nat) (M : mv_M) : Option (Unit × mv_M) :=
  some ((), M)
def jb_PM_plus_13 (N : Nat) (M : mv_M) (v0 : Nat) : Option (Unit × mv_M) :=
  mj_ob M v0 1 <|
  mj_call (jf_PM_least N M v0 0 0) fun r16 Mm16 =>
  jb_PM_plus_39 N Mm16
def jb_PM_plus_0 (N : Nat) (M : mv_M) (v0 : Nat) (v1 : Int64) (v3 : Int64) (v5 : Int64) (v7 : Int64) : Option (Unit × mv_M) :=
  if (lg_cmp v3 0) = 0 then (jb_PM_plus_13 N M v0) else
  if (lg_cmp v7 0) = 0 then (jb_PM_plus_13 N M v0) else
  mj_ob M v0 1 <|
  mj_call (jf_PM_least N M v0 ((v1 * v7) + (v5 * v3)) (v3 * v7)) fun r36 Mm36 =>
  jb_PM_plus_39 N Mm36
def jf_PM_plus (N : Nat) (M : mv_M) (v0 : Nat) (v1 : Int64) (v3 : Int64) (v5 : Int64) (v7 : Int64) : Option (Unit × mv_M) := jb_PM_plus_0 N M v0 v1 v3 v5 v7
set_option maxHeartbeats 4000000 in
set_option maxRecDepth 100000 in
theorem tb_PM_plus_39 (l : Launch) (D : va_G) (E : Nat → ClassId) (B : Nat) (sa : (Nat → Nat) × Nat × (Nat → Int32)) (M0 M1 : mv_M) (r : Unit) (N : Nat) (M : mv_M) (hJ : jb_PM_plus_39 N M = some (r, M1)) : mv_G (xg l D E B sa) kd_PM_plus M0 M1 none M 39 [] [] := by
  unfold jb_PM_plus_39 at hJ
  exact mv_vret (pc := 39) rfl de_PM_plus_39 hJ
set_option maxHeartbeats 4000000 in
set_option maxRecDepth 100000 in
theorem tb_PM_plus_13 (l : Launch) (D : va_G) (E : Nat → ClassId) (B : Nat) (sa : (Nat → Nat) × Nat × (Nat → Int32)) (M0 M1 : mv_M) (r : Unit) (N : Nat) (M : mv_M) (v0 : Nat) (hJ : jb_PM_plus_13 N M v0 = some (r, M1)) : mv_G (xg l D E B sa) kd_PM_plus M0 M1 none M 13 [(0, va_rf (some v0))] [] := by
  unfold jb_PM_plus_13 at hJ
  refine mv_aload_n (pc := 13) (i := 0) de_PM_plus_13 rfl 0 rfl ?_
  refine mv_lconst (pc := 14) (v := 0) de_PM_plus_14 (by decide) ?_
  refine mv_lconst (pc := 15) (v := 0) de_PM_plus_15 (by decide) ?_
  obtain ⟨hi16, h16o⟩ := mj_obE hJ
  obtain ⟨r16, Mm16, hz16, h16⟩ := mj_callE h16o
  refine mv_callV (pc := 16) (n := 2) (av := [.long 0, .long 0]) (rest := []) de_PM_plus_16 (kc_1 l D E B sa) hi16 (cm_PM_least l D E B sa N M v0 0 0 _ _ hz16) wt_4_217 wt_4_219 wp_29 wt_1_8 wt_4_220 ⟨by decide, by decide, by decide +kernel⟩ rfl ⟨Nat.le_of_ble_eq_true rfl, Nat.le_of_ble_eq_true rfl⟩ (Nat.le_of_ble_eq_true rfl) rfl ?_
  refine mv_goto (pc := 19) (tgt := 39) de_PM_plus_19 (by decide) ?_
  exact mv_sub [] rfl (tb_PM_plus_39 l D E B sa M0 M1 r N Mm16 h16)
set_option maxHeartbeats 4000000 in
set_option maxRecDepth 100000 in
theorem tb_PM_plus_0 (l : Launch) (D : va_G) (E : Nat → ClassId) (B : Nat) (sa : (Nat → Nat) × Nat × (Nat → Int32)) (M0 M1 : mv_M) (r : Unit) (N : Nat) (M : mv_M) (v0 : Nat) (v1 : Int64) (v3 : Int64) (v5 : Int64) (v7 : Int64) (hJ : jb_PM_plus_0 N M v0 v1 v3 v5 v7 = some (r, M1)) : mv_G (xg l D E B sa) kd_PM_plus M0 M1 none M 0 [(0, va_rf (some v0)), (1, .long v1), (3, .long v3), (5, .long v5), (7, .long v7)] [] := by
  unfold jb_PM_plus_0 at hJ
  refine mv_lload_n (pc := 0) (i := 3) de_PM_plus_0 rfl 2 rfl ?_
  refine mv_lconst (pc := 1) (v := 0) de_PM_plus_1 (by decide) ?_
  refine mv_lcmp (pc := 2) de_PM_plus_2 ?_
  refine mv_if_eq (pc := 3) (tgt := 13) de_PM_plus_3 (by decide) hJ (fun hc3 h3 => ?_) (fun hc3 h3 => ?_)
  · exact mv_sub [0] rfl (tb_PM_plus_13 l D E B sa M0 M1 r N M v0 h3)
  · refine mv_lload (pc := 6) de_PM_plus_6 4 rfl ?_
    refine mv_lconst (pc := 8) (v := 0) de_PM_plus_8 (by decide) ?_
    refine mv_lcmp (pc := 9) de_PM_plus_9 ?_
    refine mv_if_ne (pc := 10) (tgt := 22) de_PM_plus_10 (by decide) h3 (fun hc10 h10 => ?_) (fun hc10 h10 => ?_)
    · exact mv_sub [0] rfl (tb_PM_plus_13 l D E B sa M0 M1 r N M v0 h10)
    · refine mv_aload_n (pc := 22) (i := 0) de_PM_plus_22 rfl 0 rfl ?_
      refine mv_lload_n (pc := 23) (i := 1) de_PM_plus_23 rfl 1 rfl ?_
      refine mv_lload (pc := 24) de_PM_plus_24 4 rfl ?_
      refine mv_lmul (pc := 26) de_PM_plus_26 ?_
      refine mv_lload (pc := 27) de_PM_plus_27 3 rfl ?_
      refine mv_lload_n (pc := 29) (i := 3) de_PM_plus_29 rfl 2 rfl ?_
      refine mv_lmul (pc := 30) de_PM_plus_30 ?_
      refine mv_ladd (pc := 31) de_PM_plus_31 ?_
      refine mv_lload_n (pc := 32) (i := 3) de_PM_plus_32 rfl 2 rfl ?_
      refine mv_lload (pc := 33) de_PM_plus_33 4 rfl ?_
      refine mv_lmul (pc := 35) de_PM_plus_35 ?_
      obtain ⟨hi36, h36o⟩ := mj_obE h10
      obtain ⟨r36, Mm36, hz36, h36⟩ := mj_callE h36o
      refine mv_callV (pc := 36) (n := 2) (av := [.long ((v1 * v7) + (v5 * v3)), .long (v3 * v7)]) (rest := []) de_PM_plus_36 (kc_1 l D E B sa) hi36 (cm_PM_least l D E B sa N M v0 ((v1 * v7) + (v5 * v3)) (v3 * v7) _ _ hz36) wt_4_217 wt_4_219 wp_29 wt_1_8 wt_4_220 ⟨by decide, by decide, by decide +kernel⟩ rfl ⟨Nat.le_of_ble_eq_true rfl, Nat.le_of_ble_eq_true rfl⟩ (Nat.le_of_ble_eq_true rfl) rfl ?_
      exact mv_sub [] rfl (tb_PM_plus_39 l D E B sa M0 M1 r N Mm36 h36)
theorem cm_PM_plus (l : Launch) (D : va_G) (E : Nat → ClassId) (B : Nat) (sa : (Nat → Nat) × Nat × (Nat → Int32)) (N : Nat) (M : mv_M) (v0 : Nat) (v1 : Int64) (v3 : Int64) (v5 : Int64) (v7 : Int64) (r : Unit) (M1 : mv_M) (hJ : jf_PM_plus N M v0 v1 v3 v5 v7 = some (r, M1)) : mv_Met (xg l D E B sa) yn_PM_plus cd_PM_plus 9 none 1 30 [va_rf (some v0), .long v1, .long v3, .long v5, .long v7] M none M1 :=
  mv_enter (by decide) (Nat.le_of_ble_eq_true rfl) (mv_sub (lv := [(0, va_rf (some v0)), (1, .long v1), (3, .long v3), (5, .long v5), (7, .long v7)]) [0, 1, 2, 3, 4] rfl (tb_PM_plus_0 l D E B sa M M1 r N M v0 v1 v3 v5 v7 hJ))
/-! ===== PlainLearnerModel.times(JJJJ)V ===== -/
abbrev kd_PM_times : mv_Kd := (cd_PM_times, 9, "PlainLearnerModel", "times", none, 1, 30)
theorem de_PM_times_0 : decode cd_PM_times 0 = .ok (.lload_n 3, 1) := by decide +kernel
theorem de_PM_times_1 : decode cd_PM_times 1 = .ok (.lconst 0, 1) := by decide +kernel
theorem de_PM_times_2 : decode cd_PM_times 2 = .ok (.lcmp, 1) := by decide +kernel
theorem de_PM_times_3 : decode cd_PM_times 3 = .ok (.ifCond .eq 10, 3) := by decide +kernel
theorem de_PM_times_6 : decode cd_PM_times 6 = .ok (.lload 7, 2) := by decide +kernel
theorem de_PM_times_8 : decode cd_PM_times 8 = .ok (.lconst 0, 1) := by decide +kernel
theorem de_PM_times_9 : decode cd_PM_times 9 = .ok (.lcmp, 1) := by decide +kernel
theorem de_PM_times_10 : decode cd_PM_times 10 = .ok (.ifCond .ne 12, 3) := by decide +kernel
theorem de_PM_times_13 : decode cd_PM_times 13 = .ok (.aload_n 0, 1) := by decide +kernel
theorem de_PM_times_14 : decode cd_PM_times 14 = .ok (.lconst 0, 1) := by decide +kernel
theorem de_PM_times_15 : decode cd_PM_times 15 = .ok (.lconst 0, 1) := by decide +kernel
theorem de_PM_times_16 : decode cd_PM_times 16 = .ok (.invokevirtual 91, 3) := by decide +kernel
theorem de_PM_times_19 : decode cd_PM_times 19 = .ok (.goto 15, 3) := by decide +kernel
theorem de_PM_times_22 : decode cd_PM_times 22 = .ok (.aload_n 0, 1) := by decide +kernel
theorem de_PM_times_23 : decode cd_PM_times 23 = .ok (.lload_n 1, 1) := by decide +kernel
theorem de_PM_times_24 : decode cd_PM_times 24 = .ok (.lload 5, 2) := by decide +kernel
theorem de_PM_times_26 : decode cd_PM_times 26 = .ok (.lmul, 1) := by decide +kernel
theorem de_PM_times_27 : decode cd_PM_times 27 = .ok (.lload_n 3, 1) := by decide +kernel
theorem de_PM_times_28 : decode cd_PM_times 28 = .ok (.lload 7, 2) := by decide +kernel
theorem de_PM_times_30 : decode cd_PM_times 30 = .ok (.lmul, 1) := by decide +kernel
theorem de_PM_times_31 : decode cd_PM_times 31 = .ok (.invokevirtual 91, 3) := by decide +kernel
theorem de_PM_times_34 : decode cd_PM_times 34 = .ok (.return_, 1) := by decide +kernel
def jb_PM_times_34 (N : Nat) (M : mv_M) : Option (Unit × mv_M) :=
  some ((), M)
def jb_PM_times_13 (N : Nat) (M : mv_M) (v0 : Nat) : Option (Unit × mv_M) :=
  mj_ob M v0 1 <|
  mj_call (jf_PM_least N M v0 0 0) fun r16 Mm16 =>
  jb_PM_times_34 N Mm16
def jb_PM_times_0 (N : Nat) (M : mv_M) (v0 : Nat) (v1 : Int64) (v3 : Int64) (v5 : Int64) (v7 : Int64) : Option (Unit × mv_M) :=
  if (lg_cmp v3 0) = 0 then (jb_PM_times_13 N M v0) else
  if (lg_cmp v7 0) = 0 then (jb_PM_times_13 N M v0) else
  mj_ob M v0 1 <|
  mj_call (jf_PM_least N M v0 (v1 * v5) (v3 * v7)) fun r31 Mm31 =>
  jb_PM_times_34 N Mm31
def jf_PM_times (N : Nat) (M : mv_M) (v0 : Nat) (v1 : Int64) (v3 : Int64) (v5 : Int64) (v7 : Int64) : Option (Unit × mv_M) := jb_PM_times_0 N M v0 v1 v3 v5 v7
set_option maxHeartbeats 4000000 in
set_option maxRecDepth 100000 in
theorem tb_PM_times_34 (l : Launch) (D : va_G) (E : Nat → ClassId) (B : Nat) (sa : (Nat → Nat) × Nat × (Nat → Int32)) (M0 M1 : mv_M) (r : Unit) (N : Nat) (M : mv_M) (hJ : jb_PM_times_34 N M = some (r, M1)) : mv_G (xg l D E B sa) kd_PM_times M0 M1 none M 34 [] [] := by
  unfold jb_PM_times_34 at hJ
  exact mv_vret (pc := 34) rfl de_PM_times_34 hJ
set_option maxHeartbeats 4000000 in
set_option maxRecDepth 100000 in
theorem tb_PM_times_13 (l : Launch) (D : va_G) (E : Nat → ClassId) (B : Nat) (sa : (Nat → Nat) × Nat × (Nat → Int32)) (M0 M1 : mv_M) (r : Unit) (N : Nat) (M : mv_M) (v0 : Nat) (hJ : jb_PM_times_13 N M v0 = some (r, M1)) : mv_G (xg l D E B sa) kd_PM_times M0 M1 none M 13 [(0, va_rf (some v0))] [] := by
  unfold jb_PM_times_13 at hJ
  refine mv_aload_n (pc := 13) (i := 0) de_PM_times_13 rfl 0 rfl ?_
  refine mv_lconst (pc := 14) (v := 0) de_PM_times_14 (by decide) ?_
  refine mv_lconst (pc := 15) (v := 0) de_PM_times_15 (by decide) ?_
  obtain ⟨hi16, h16o⟩ := mj_obE hJ
  obtain ⟨r16, Mm16, hz16, h16⟩ := mj_callE h16o
  refine mv_callV (pc := 16) (n := 2) (av := [.long 0, .long 0]) (rest := []) de_PM_times_16 (kc_1 l D E B sa) hi16 (cm_PM_least l D E B sa N M v0 0 0 _ _ hz16) wt_4_217 wt_4_219 wp_29 wt_1_8 wt_4_220 ⟨by decide, by decide, by decide +kernel⟩ rfl ⟨Nat.le_of_ble_eq_true rfl, Nat.le_of_ble_eq_true rfl⟩ (Nat.le_of_ble_eq_true rfl) rfl ?_
  refine mv_goto (pc := 19) (tgt := 34) de_PM_times_19 (by decide) ?_
  exact mv_sub [] rfl (tb_PM_times_34 l D E B sa M0 M1 r N Mm16 h16)
set_option maxHeartbeats 4000000 in
set_option maxRecDepth 100000 in
theorem tb_PM_times_0 (l : Launch) (D : va_G) (E : Nat → ClassId) (B : Nat) (sa : (Nat → Nat) × Nat × (Nat → Int32)) (M0 M1 : mv_M) (r : Unit) (N : Nat) (M : mv_M) (v0 : Nat) (v1 : Int64) (v3 : Int64) (v5 : Int64) (v7 : Int64) (hJ : jb_PM_times_0 N M v0 v1 v3 v5 v7 = some (r, M1)) : mv_G (xg l D E B sa) kd_PM_times M0 M1 none M 0 [(0, va_rf (some v0)), (1, .long v1), (3, .long v3), (5, .long v5), (7, .long v7)] [] := by
  unfold jb_PM_times_0 at hJ
  refine mv_lload_n (pc := 0) (i := 3) de_PM_times_0 rfl 2 rfl ?_
  refine mv_lconst (pc := 1) (v := 0) de_PM_times_1 (by decide) ?_
  refine mv_lcmp (pc := 2) de_PM_times_2 ?_
  refine mv_if_eq (pc := 3) (tgt := 13) de_PM_times_3 (by decide) hJ (fun hc3 h3 => ?_) (fun hc3 h3 => ?_)
  · exact mv_sub [0] rfl (tb_PM_times_13 l D E B sa M0 M1 r N M v0 h3)
  · refine mv_lload (pc := 6) de_PM_times_6 4 rfl ?_
    refine mv_lconst (pc := 8) (v := 0) de_PM_times_8 (by decide) ?_
    refine mv_lcmp (pc := 9) de_PM_times_9 ?_
    refine mv_if_ne (pc := 10) (tgt := 22) de_PM_times_10 (by decide) h3 (fun hc10 h10 => ?_) (fun hc10 h10 => ?_)
    · exact mv_sub [0] rfl (tb_PM_times_13 l D E B sa M0 M1 r N M v0 h10)
    · refine mv_aload_n (pc := 22) (i := 0) de_PM_times_22 rfl 0 rfl ?_
      refine mv_lload_n (pc := 23) (i := 1) de_PM_times_23 rfl 1 rfl ?_
      refine mv_lload (pc := 24) de_PM_times_24 3 rfl ?_
      refine mv_lmul (pc := 26) de_PM_times_26 ?_
      refine mv_lload_n (pc := 27) (i := 3) de_PM_times_27 rfl 2 rfl ?_
      refine mv_lload (pc := 28) de_PM_times_28 4 rfl ?_
      refine mv_lmul (pc := 30) de_PM_times_30 ?_
      obtain ⟨hi31, h31o⟩ := mj_obE h10
      obtain ⟨r31, Mm31, hz31, h31⟩ := mj_callE h31o
      refine mv_callV (pc := 31) (n := 2) (av := [.long (v1 * v5), .long (v3 * v7)]) (rest := []) de_PM_times_31 (kc_1 l D E B sa) hi31 (cm_PM_least l D E B sa N M v0 (v1 * v5) (v3 * v7) _ _ hz31) wt_4_217 wt_4_219 wp_29 wt_1_8 wt_4_220 ⟨by decide, by decide, by decide +kernel⟩ rfl ⟨Nat.le_of_ble_eq_true rfl, Nat.le_of_ble_eq_true rfl⟩ (Nat.le_of_ble_eq_true rfl) rfl ?_
      exact mv_sub [] rfl (tb_PM_times_34 l D E B sa M0 M1 r N Mm31 h31)
theorem cm_PM_times (l : Launch) (D : va_G) (E : Nat → ClassId) (B : Nat) (sa : (Nat → Nat) × Nat × (Nat → Int32)) (N : Nat) (M : mv_M) (v0 : Nat) (v1 : Int64) (v3 : Int64) (v5 : Int64) (v7 : Int64) (r : Unit) (M1 : mv_M) (hJ : jf_PM_times N M v0 v1 v3 v5 v7 = some (r, M1)) : mv_Met (xg l D E B sa) yn_PM_times cd_PM_times 9 none 1 30 [va_rf (some v0), .long v1, .long v3, .long v5, .long v7] M none M1 :=
  mv_enter (by decide) (Nat.le_of_ble_eq_true rfl) (mv_sub (lv := [(0, va_rf (some v0)), (1, .long v1), (3, .long v3), (5, .long v5), (7, .long v7)]) [0, 1, 2, 3, 4] rfl (tb_PM_times_0 l D E B sa M M1 r N M v0 v1 v3 v5 v7 hJ))
/-! ===== PlainLearnerModel.over(JJJJ)V ===== -/
abbrev kd_PM_over : mv_Kd := (cd_PM_over, 9, "PlainLearnerModel", "over", none, 1, 30)
theorem de_PM_over_0 : decode cd_PM_over 0 = .ok (.lload_n 3, 1) := by decide +kernel
theorem de_PM_over_1 : decode cd_PM_over 1 = .ok (.lconst 0, 1) := by decide +kernel
theorem de_PM_over_2 : decode cd_PM_over 2 = .ok (.lcmp, 1) := by decide +kernel
theorem de_PM_over_3 : decode cd_PM_over 3 = .ok (.ifCond .eq 10, 3) := by decide +kernel
theorem de_PM_over_6 : decode cd_PM_over 6 = .ok (.lload 7, 2) := by decide +kernel
theorem de_PM_over_8 : decode cd_PM_over 8 = .ok (.lconst 0, 1) := by decide +kernel
theorem de_PM_over_9 : decode cd_PM_over 9 = .ok (.lcmp, 1) := by decide +kernel
theorem de_PM_over_10 : decode cd_PM_over 10 = .ok (.ifCond .ne 12, 3) := by decide +kernel
theorem de_PM_over_13 : decode cd_PM_over 13 = .ok (.aload_n 0, 1) := by decide +kernel
theorem de_PM_over_14 : decode cd_PM_over 14 = .ok (.lconst 0, 1) := by decide +kernel
theorem de_PM_over_15 : decode cd_PM_over 15 = .ok (.lconst 0, 1) := by decide +kernel
theorem de_PM_over_16 : decode cd_PM_over 16 = .ok (.invokevirtual 91, 3) := by decide +kernel
theorem de_PM_over_19 : decode cd_PM_over 19 = .ok (.goto 15, 3) := by decide +kernel
theorem de_PM_over_22 : decode cd_PM_over 22 = .ok (.aload_n 0, 1) := by decide +kernel
theorem de_PM_over_23 : decode cd_PM_over 23 = .ok (.lload_n 1, 1) := by decide +kernel
theorem de_PM_over_24 : decode cd_PM_over 24 = .ok (.lload 7, 2) := by decide +kernel
theorem de_PM_over_26 : decode cd_PM_over 26 = .ok (.lmul, 1) := by decide +kernel
theorem de_PM_over_27 : decode cd_PM_over 27 = .ok (.lload_n 3, 1) := by decide +kernel
theorem de_PM_over_28 : decode cd_PM_over 28 = .ok (.lload 5, 2) := by decide +kernel
theorem de_PM_over_30 : decode cd_PM_over 30 = .ok (.lmul, 1) := by decide +kernel
theorem de_PM_over_31 : decode cd_PM_over 31 = .ok (.invokevirtual 91, 3) := by decide +kernel
theorem de_PM_over_34 : decode cd_PM_over 34 = .ok (.return_, 1) := by decide +kernel
def jb_PM_over_34 (N : Nat) (M : mv_M) : Option (Unit × mv_M) :=
  some ((), M)
def jb_PM_over_13 (N : Nat) (M : mv_M) (v0 : Nat) : Option (Unit × mv_M) :=
  mj_ob M v0 1 <|
  mj_call (jf_PM_least N M v0 0 0) fun r16 Mm16 =>
  jb_PM_over_34 N Mm16
def jb_PM_over_0 (N : Nat) (M : mv_M) (v0 : Nat) (v1 : Int64) (v3 : Int64) (v5 : Int64) (v7 : Int64) : Option (Unit × mv_M) :=
  if (lg_cmp v3 0) = 0 then (jb_PM_over_13 N M v0) else
  if (lg_cmp v7 0) = 0 then (jb_PM_over_13 N M v0) else
  mj_ob M v0 1 <|
  mj_call (jf_PM_least N M v0 (v1 * v7) (v3 * v5)) fun r31 Mm31 =>
  jb_PM_over_34 N Mm31
def jf_PM_over (N : Nat) (M : mv_M) (v0 : Nat) (v1 : Int64) (v3 : Int64) (v5 : Int64) (v7 : Int64) : Option (Unit × mv_M) := jb_PM_over_0 N M v0 v1 v3 v5 v7
set_option maxHeartbeats 4000000 in
set_option maxRecDepth 100000 in
theorem tb_PM_over_34 (l : Launch) (D : va_G) (E : Nat → ClassId) (B : Nat) (sa : (Nat → Nat) × Nat × (Nat → Int32)) (M0 M1 : mv_M) (r : Unit) (N : Nat) (M : mv_M) (hJ : jb_PM_over_34 N M = some (r, M1)) : mv_G (xg l D E B sa) kd_PM_over M0 M1 none M 34 [] [] := by
  unfold jb_PM_over_34 at hJ
  exact mv_vret (pc := 34) rfl de_PM_over_34 hJ
set_option maxHeartbeats 4000000 in
set_option maxRecDepth 100000 in
theorem tb_PM_over_13 (l : Launch) (D : va_G) (E : Nat → ClassId) (B : Nat) (sa : (Nat → Nat) × Nat × (Nat → Int32)) (M0 M1 : mv_M) (r : Unit) (N : Nat) (M : mv_M) (v0 : Nat) (hJ : jb_PM_over_13 N M v0 = some (r, M1)) : mv_G (xg l D E B sa) kd_PM_over M0 M1 none M 13 [(0, va_rf (some v0))] [] := by
  unfold jb_PM_over_13 at hJ
  refine mv_aload_n (pc := 13) (i := 0) de_PM_over_13 rfl 0 rfl ?_
  refine mv_lconst (pc := 14) (v := 0) de_PM_over_14 (by decide) ?_
  refine mv_lconst (pc := 15) (v := 0) de_PM_over_15 (by decide) ?_
  obtain ⟨hi16, h16o⟩ := mj_obE hJ
  obtain ⟨r16, Mm16, hz16, h16⟩ := mj_callE h16o
  refine mv_callV (pc := 16) (n := 2) (av := [.long 0, .long 0]) (rest := []) de_PM_over_16 (kc_1 l D E B sa) hi16 (cm_PM_least l D E B sa N M v0 0 0 _ _ hz16) wt_4_217 wt_4_219 wp_29 wt_1_8 wt_4_220 ⟨by decide, by decide, by decide +kernel⟩ rfl ⟨Nat.le_of_ble_eq_true rfl, Nat.le_of_ble_eq_true rfl⟩ (Nat.le_of_ble_eq_true rfl) rfl ?_
  refine mv_goto (pc := 19) (tgt := 34) de_PM_over_19 (by decide) ?_
  exact mv_sub [] rfl (tb_PM_over_34 l D E B sa M0 M1 r N Mm16 h16)
set_option maxHeartbeats 4000000 in
set_option maxRecDepth 100000 in
theorem tb_PM_over_0 (l : Launch) (D : va_G) (E : Nat → ClassId) (B : Nat) (sa : (Nat → Nat) × Nat × (Nat → Int32)) (M0 M1 : mv_M) (r : Unit) (N : Nat) (M : mv_M) (v0 : Nat) (v1 : Int64) (v3 : Int64) (v5 : Int64) (v7 : Int64) (hJ : jb_PM_over_0 N M v0 v1 v3 v5 v7 = some (r, M1)) : mv_G (xg l D E B sa) kd_PM_over M0 M1 none M 0 [(0, va_rf (some v0)), (1, .long v1), (3, .long v3), (5, .long v5), (7, .long v7)] [] := by
  unfold jb_PM_over_0 at hJ
  refine mv_lload_n (pc := 0) (i := 3) de_PM_over_0 rfl 2 rfl ?_
  refine mv_lconst (pc := 1) (v := 0) de_PM_over_1 (by decide) ?_
  refine mv_lcmp (pc := 2) de_PM_over_2 ?_
  refine mv_if_eq (pc := 3) (tgt := 13) de_PM_over_3 (by decide) hJ (fun hc3 h3 => ?_) (fun hc3 h3 => ?_)
  · exact mv_sub [0] rfl (tb_PM_over_13 l D E B sa M0 M1 r N M v0 h3)
  · refine mv_lload (pc := 6) de_PM_over_6 4 rfl ?_
    refine mv_lconst (pc := 8) (v := 0) de_PM_over_8 (by decide) ?_
    refine mv_lcmp (pc := 9) de_PM_over_9 ?_
    refine mv_if_ne (pc := 10) (tgt := 22) de_PM_over_10 (by decide) h3 (fun hc10 h10 => ?_) (fun hc10 h10 => ?_)
    · exact mv_sub [0] rfl (tb_PM_over_13 l D E B sa M0 M1 r N M v0 h10)
    · refine mv_aload_n (pc := 22) (i := 0) de_PM_over_22 rfl 0 rfl ?_
      refine mv_lload_n (pc := 23) (i := 1) de_PM_over_23 rfl 1 rfl ?_
      refine mv_lload (pc := 24) de_PM_over_24 4 rfl ?_
      refine mv_lmul (pc := 26) de_PM_over_26 ?_
      refine mv_lload_n (pc := 27) (i := 3) de_PM_over_27 rfl 2 rfl ?_
      refine mv_lload (pc := 28) de_PM_over_28 3 rfl ?_
      refine mv_lmul (pc := 30) de_PM_over_30 ?_
      obtain ⟨hi31, h31o⟩ := mj_obE h10
      obtain ⟨r31, Mm31, hz31, h31⟩ := mj_callE h31o
      refine mv_callV (pc := 31) (n := 2) (av := [.long (v1 * v7), .long (v3 * v5)]) (rest := []) de_PM_over_31 (kc_1 l D E B sa) hi31 (cm_PM_least l D E B sa N M v0 (v1 * v7) (v3 * v5) _ _ hz31) wt_4_217 wt_4_219 wp_29 wt_1_8 wt_4_220 ⟨by decide, by decide, by decide +kernel⟩ rfl ⟨Nat.le_of_ble_eq_true rfl, Nat.le_of_ble_eq_true rfl⟩ (Nat.le_of_ble_eq_true rfl) rfl ?_
      exact mv_sub [] rfl (tb_PM_over_34 l D E B sa M0 M1 r N Mm31 h31)
theorem cm_PM_over (l : Launch) (D : va_G) (E : Nat → ClassId) (B : Nat) (sa : (Nat → Nat) × Nat × (Nat → Int32)) (N : Nat) (M : mv_M) (v0 : Nat) (v1 : Int64) (v3 : Int64) (v5 : Int64) (v7 : Int64) (r : Unit) (M1 : mv_M) (hJ : jf_PM_over N M v0 v1 v3 v5 v7 = some (r, M1)) : mv_Met (xg l D E B sa) yn_PM_over cd_PM_over 9 none 1 30 [va_rf (some v0), .long v1, .long v3, .long v5, .long v7] M none M1 :=
  mv_enter (by decide) (Nat.le_of_ble_eq_true rfl) (mv_sub (lv := [(0, va_rf (some v0)), (1, .long v1), (3, .long v3), (5, .long v5), (7, .long v7)]) [0, 1, 2, 3, 4] rfl (tb_PM_over_0 l D E B sa M M1 r N M v0 v1 v3 v5 v7 hJ))
/-! ===== PlainLearnerModel.isAbove(JJJJ)Z ===== -/
abbrev kd_PM_isAbove : mv_Kd := (cd_PM_isAbove, 8, "PlainLearnerModel", "isAbove", (some .boolean), 0, 0)
theorem de_PM_isAbove_0 : decode cd_PM_isAbove 0 = .ok (.lload_n 0, 1) := by decide +kernel
theorem de_PM_isAbove_1 : decode cd_PM_isAbove 1 = .ok (.lload 6, 2) := by decide +kernel
theorem de_PM_isAbove_3 : decode cd_PM_isAbove 3 = .ok (.lmul, 1) := by decide +kernel
theorem de_PM_isAbove_4 : decode cd_PM_isAbove 4 = .ok (.lload 4, 2) := by decide +kernel
theorem de_PM_isAbove_6 : decode cd_PM_isAbove 6 = .ok (.lload_n 2, 1) := by decide +kernel
theorem de_PM_isAbove_7 : decode cd_PM_isAbove 7 = .ok (.lmul, 1) := by decide +kernel
theorem de_PM_isAbove_8 : decode cd_PM_isAbove 8 = .ok (.lcmp, 1) := by decide +kernel
theorem de_PM_isAbove_9 : decode cd_PM_isAbove 9 = .ok (.ifCond .le 7, 3) := by decide +kernel
theorem de_PM_isAbove_12 : decode cd_PM_isAbove 12 = .ok (.iconst 1, 1) := by decide +kernel
theorem de_PM_isAbove_13 : decode cd_PM_isAbove 13 = .ok (.goto 4, 3) := by decide +kernel
theorem de_PM_isAbove_16 : decode cd_PM_isAbove 16 = .ok (.iconst 0, 1) := by decide +kernel
theorem de_PM_isAbove_17 : decode cd_PM_isAbove 17 = .ok (.ireturn, 1) := by decide +kernel
def jb_PM_isAbove_17 (N : Nat) (M : mv_M) (s0 : Int32) : Option (Int32 × mv_M) :=
  if s0 = 0 ∨ s0 = 1 then some (s0, M) else none
def jb_PM_isAbove_0 (N : Nat) (M : mv_M) (v0 : Int64) (v2 : Int64) (v4 : Int64) (v6 : Int64) : Option (Int32 × mv_M) :=
  if (lg_cmp (v0 * v6) (v4 * v2)) ≤ 0 then (jb_PM_isAbove_17 N M 0) else
  jb_PM_isAbove_17 N M 1
def jf_PM_isAbove (N : Nat) (M : mv_M) (v0 : Int64) (v2 : Int64) (v4 : Int64) (v6 : Int64) : Option (Int32 × mv_M) := jb_PM_isAbove_0 N M v0 v2 v4 v6
set_option maxHeartbeats 4000000 in
set_option maxRecDepth 100000 in
theorem tb_PM_isAbove_17 (l : Launch) (D : va_G) (E : Nat → ClassId) (B : Nat) (sa : (Nat → Nat) × Nat × (Nat → Int32)) (M0 M1 : mv_M) (r : Int32) (N : Nat) (M : mv_M) (s0 : Int32) (hJ : jb_PM_isAbove_17 N M s0 = some (r, M1)) : mv_G (xg l D E B sa) kd_PM_isAbove M0 M1 (some (.int r)) M 17 [] [.int s0] := by
  unfold jb_PM_isAbove_17 at hJ
  exact mv_zret (pc := 17) rfl de_PM_isAbove_17 hJ
set_option maxHeartbeats 4000000 in
set_option maxRecDepth 100000 in
theorem tb_PM_isAbove_0 (l : Launch) (D : va_G) (E : Nat → ClassId) (B : Nat) (sa : (Nat → Nat) × Nat × (Nat → Int32)) (M0 M1 : mv_M) (r : Int32) (N : Nat) (M : mv_M) (v0 : Int64) (v2 : Int64) (v4 : Int64) (v6 : Int64) (hJ : jb_PM_isAbove_0 N M v0 v2 v4 v6 = some (r, M1)) : mv_G (xg l D E B sa) kd_PM_isAbove M0 M1 (some (.int r)) M 0 [(0, .long v0), (2, .long v2), (4, .long v4), (6, .long v6)] [] := by
  unfold jb_PM_isAbove_0 at hJ
  refine mv_lload_n (pc := 0) (i := 0) de_PM_isAbove_0 rfl 0 rfl ?_
  refine mv_lload (pc := 1) de_PM_isAbove_1 3 rfl ?_
  refine mv_lmul (pc := 3) de_PM_isAbove_3 ?_
  refine mv_lload (pc := 4) de_PM_isAbove_4 2 rfl ?_
  refine mv_lload_n (pc := 6) (i := 2) de_PM_isAbove_6 rfl 1 rfl ?_
  refine mv_lmul (pc := 7) de_PM_isAbove_7 ?_
  refine mv_lcmp (pc := 8) de_PM_isAbove_8 ?_
  refine mv_if_le (pc := 9) (tgt := 16) de_PM_isAbove_9 (by decide) hJ (fun hc9 h9 => ?_) (fun hc9 h9 => ?_)
  · refine mv_iconst (pc := 16) (v := 0) de_PM_isAbove_16 (by decide) ?_
    exact mv_sub [] rfl (tb_PM_isAbove_17 l D E B sa M0 M1 r N M 0 h9)
  · refine mv_iconst (pc := 12) (v := 1) de_PM_isAbove_12 (by decide) ?_
    refine mv_goto (pc := 13) (tgt := 17) de_PM_isAbove_13 (by decide) ?_
    exact mv_sub [] rfl (tb_PM_isAbove_17 l D E B sa M0 M1 r N M 1 h9)
theorem cm_PM_isAbove (l : Launch) (D : va_G) (E : Nat → ClassId) (B : Nat) (sa : (Nat → Nat) × Nat × (Nat → Int32)) (N : Nat) (M : mv_M) (v0 : Int64) (v2 : Int64) (v4 : Int64) (v6 : Int64) (r : Int32) (M1 : mv_M) (hJ : jf_PM_isAbove N M v0 v2 v4 v6 = some (r, M1)) : mv_Met (xg l D E B sa) yn_PM_isAbove cd_PM_isAbove 8 (some .boolean) 0 0 [.long v0, .long v2, .long v4, .long v6] M (some (.int r)) M1 :=
  mv_enter (by decide) (Nat.le_of_ble_eq_true rfl) (mv_sub (lv := [(0, .long v0), (2, .long v2), (4, .long v4), (6, .long v6)]) [0, 1, 2, 3] rfl (tb_PM_isAbove_0 l D E B sa M M1 r N M v0 v2 v4 v6 hJ))
/-! ===== PlainLearnerModel.told(I)J ===== -/
abbrev kd_PM_told : mv_Kd := (cd_PM_told, 2, "PlainLearnerModel", "told", (some .long), 0, 0)
theorem de_PM_told_0 : decode cd_PM_told 0 = .ok (.iload_n 1, 1) := by decide +kernel
theorem de_PM_told_1 : decode cd_PM_told 1 = .ok (.ifCond .ne 10, 3) := by decide +kernel
theorem de_PM_told_4 : decode cd_PM_told 4 = .ok (.aload_n 0, 1) := by decide +kernel
theorem de_PM_told_5 : decode cd_PM_told 5 = .ok (.getfield 81, 3) := by decide +kernel
theorem de_PM_told_8 : decode cd_PM_told 8 = .ok (.goto 7, 3) := by decide +kernel
theorem de_PM_told_11 : decode cd_PM_told 11 = .ok (.aload_n 0, 1) := by decide +kernel
theorem de_PM_told_12 : decode cd_PM_told 12 = .ok (.getfield 84, 3) := by decide +kernel
theorem de_PM_told_15 : decode cd_PM_told 15 = .ok (.lreturn, 1) := by decide +kernel
def jb_PM_told_15 (N : Nat) (M : mv_M) (s0 : Int64) : Option (Int64 × mv_M) :=
  some (s0, M)
def jb_PM_told_0 (N : Nat) (M : mv_M) (v0 : Nat) (v1 : Int32) : Option (Int64 × mv_M) :=
  if v1 = 0 then (Option.bind (mj_getL M v0 1 0) fun x5 =>
  jb_PM_told_15 N M x5) else
  Option.bind (mj_getL M v0 1 1) fun x12 =>
  jb_PM_told_15 N M x12
def jf_PM_told (N : Nat) (M : mv_M) (v0 : Nat) (v1 : Int32) : Option (Int64 × mv_M) := jb_PM_told_0 N M v0 v1
set_option maxHeartbeats 4000000 in
set_option maxRecDepth 100000 in
theorem tb_PM_told_15 (l : Launch) (D : va_G) (E : Nat → ClassId) (B : Nat) (sa : (Nat → Nat) × Nat × (Nat → Int32)) (M0 M1 : mv_M) (r : Int64) (N : Nat) (M : mv_M) (s0 : Int64) (hJ : jb_PM_told_15 N M s0 = some (r, M1)) : mv_G (xg l D E B sa) kd_PM_told M0 M1 (some (.long r)) M 15 [] [.long s0] := by
  unfold jb_PM_told_15 at hJ
  exact mv_lret (pc := 15) rfl de_PM_told_15 hJ
set_option maxHeartbeats 4000000 in
set_option maxRecDepth 100000 in
theorem tb_PM_told_0 (l : Launch) (D : va_G) (E : Nat → ClassId) (B : Nat) (sa : (Nat → Nat) × Nat × (Nat → Int32)) (M0 M1 : mv_M) (r : Int64) (N : Nat) (M : mv_M) (v0 : Nat) (v1 : Int32) (hJ : jb_PM_told_0 N M v0 v1 = some (r, M1)) : mv_G (xg l D E B sa) kd_PM_told M0 M1 (some (.long r)) M 0 [(0, va_rf (some v0)), (1, .int v1)] [] := by
  unfold jb_PM_told_0 at hJ
  refine mv_iload_n (pc := 0) (i := 1) de_PM_told_0 rfl 1 rfl ?_
  refine mv_if_ne (pc := 1) (tgt := 11) de_PM_told_1 (by decide) hJ (fun hc1 h1 => ?_) (fun hc1 h1 => ?_)
  · refine mv_aload_n (pc := 4) (i := 0) de_PM_told_4 rfl 0 rfl ?_
    refine mv_getL (pc := 5) (f := 0) (kc_1 l D E B sa) (Nat.le_of_ble_eq_true rfl) wt_4_80 de_PM_told_5 h1 (fun x5 e5 h5 => ?_)
    refine mv_goto (pc := 8) (tgt := 15) de_PM_told_8 (by decide) ?_
    exact mv_sub [] rfl (tb_PM_told_15 l D E B sa M0 M1 r N M x5 h5)
  · refine mv_aload_n (pc := 11) (i := 0) de_PM_told_11 rfl 0 rfl ?_
    refine mv_getL (pc := 12) (f := 1) (kc_1 l D E B sa) (Nat.le_of_ble_eq_true rfl) wt_4_81 de_PM_told_12 h1 (fun x12 e12 h12 => ?_)
    exact mv_sub [] rfl (tb_PM_told_15 l D E B sa M0 M1 r N M x12 h12)
theorem cm_PM_told (l : Launch) (D : va_G) (E : Nat → ClassId) (B : Nat) (sa : (Nat → Nat) × Nat × (Nat → Int32)) (N : Nat) (M : mv_M) (v0 : Nat) (v1 : Int32) (r : Int64) (M1 : mv_M) (hJ : jf_PM_told N M v0 v1 = some (r, M1)) : mv_Met (xg l D E B sa) yn_PM_told cd_PM_told 2 (some .long) 0 0 [va_rf (some v0), .int v1] M (some (.long r)) M1 :=
  mv_enter (by decide) (Nat.le_of_ble_eq_true rfl) (mv_sub (lv := [(0, va_rf (some v0)), (1, .int v1)]) [0, 1] rfl (tb_PM_told_0 l D E B sa M M1 r N M v0 v1 hJ))
/-! ===== PlainLearnerModel.isIn(JJJ)Z ===== -/
abbrev kd_PM_isIn : mv_Kd := (cd_PM_isIn, 6, "PlainLearnerModel", "isIn", (some .boolean), 0, 0)
theorem de_PM_isIn_0 : decode cd_PM_isIn 0 = .ok (.lload_n 0, 1) := by decide +kernel
theorem de_PM_isIn_1 : decode cd_PM_isIn 1 = .ok (.lload_n 2, 1) := by decide +kernel
theorem de_PM_isIn_2 : decode cd_PM_isIn 2 = .ok (.lcmp, 1) := by decide +kernel
theorem de_PM_isIn_3 : decode cd_PM_isIn 3 = .ok (.ifCond .lt 14, 3) := by decide +kernel
theorem de_PM_isIn_6 : decode cd_PM_isIn 6 = .ok (.lload_n 0, 1) := by decide +kernel
theorem de_PM_isIn_7 : decode cd_PM_isIn 7 = .ok (.lload 4, 2) := by decide +kernel
theorem de_PM_isIn_9 : decode cd_PM_isIn 9 = .ok (.lcmp, 1) := by decide +kernel
theorem de_PM_isIn_10 : decode cd_PM_isIn 10 = .ok (.ifCond .gt 7, 3) := by decide +kernel
theorem de_PM_isIn_13 : decode cd_PM_isIn 13 = .ok (.iconst 1, 1) := by decide +kernel
theorem de_PM_isIn_14 : decode cd_PM_isIn 14 = .ok (.goto 4, 3) := by decide +kernel
theorem de_PM_isIn_17 : decode cd_PM_isIn 17 = .ok (.iconst 0, 1) := by decide +kernel
theorem de_PM_isIn_18 : decode cd_PM_isIn 18 = .ok (.ireturn, 1) := by decide +kernel
def jb_PM_isIn_18 (N : Nat) (M : mv_M) (s0 : Int32) : Option (Int32 × mv_M) :=
  if s0 = 0 ∨ s0 = 1 then some (s0, M) else none
def jb_PM_isIn_17 (N : Nat) (M : mv_M) : Option (Int32 × mv_M) :=
  jb_PM_isIn_18 N M 0
def jb_PM_isIn_0 (N : Nat) (M : mv_M) (v0 : Int64) (v2 : Int64) (v4 : Int64) : Option (Int32 × mv_M) :=
  if (lg_cmp v0 v2) < 0 then (jb_PM_isIn_17 N M) else
  if 0 < (lg_cmp v0 v4) then (jb_PM_isIn_17 N M) else
  jb_PM_isIn_18 N M 1
def jf_PM_isIn (N : Nat) (M : mv_M) (v0 : Int64) (v2 : Int64) (v4 : Int64) : Option (Int32 × mv_M) := jb_PM_isIn_0 N M v0 v2 v4
set_option maxHeartbeats 4000000 in
set_option maxRecDepth 100000 in
theorem tb_PM_isIn_18 (l : Launch) (D : va_G) (E : Nat → ClassId) (B : Nat) (sa : (Nat → Nat) × Nat × (Nat → Int32)) (M0 M1 : mv_M) (r : Int32) (N : Nat) (M : mv_M) (s0 : Int32) (hJ : jb_PM_isIn_18 N M s0 = some (r, M1)) : mv_G (xg l D E B sa) kd_PM_isIn M0 M1 (some (.int r)) M 18 [] [.int s0] := by
  unfold jb_PM_isIn_18 at hJ
  exact mv_zret (pc := 18) rfl de_PM_isIn_18 hJ
set_option maxHeartbeats 4000000 in
set_option maxRecDepth 100000 in
theorem tb_PM_isIn_17 (l : Launch) (D : va_G) (E : Nat → ClassId) (B : Nat) (sa : (Nat → Nat) × Nat × (Nat → Int32)) (M0 M1 : mv_M) (r : Int32) (N : Nat) (M : mv_M) (hJ : jb_PM_isIn_17 N M = some (r, M1)) : mv_G (xg l D E B sa) kd_PM_isIn M0 M1 (some (.int r)) M 17 [] [] := by
  unfold jb_PM_isIn_17 at hJ
  refine mv_iconst (pc := 17) (v := 0) de_PM_isIn_17 (by decide) ?_
  exact mv_sub [] rfl (tb_PM_isIn_18 l D E B sa M0 M1 r N M 0 hJ)
set_option maxHeartbeats 4000000 in
set_option maxRecDepth 100000 in
theorem tb_PM_isIn_0 (l : Launch) (D : va_G) (E : Nat → ClassId) (B : Nat) (sa : (Nat → Nat) × Nat × (Nat → Int32)) (M0 M1 : mv_M) (r : Int32) (N : Nat) (M : mv_M) (v0 : Int64) (v2 : Int64) (v4 : Int64) (hJ : jb_PM_isIn_0 N M v0 v2 v4 = some (r, M1)) : mv_G (xg l D E B sa) kd_PM_isIn M0 M1 (some (.int r)) M 0 [(0, .long v0), (2, .long v2), (4, .long v4)] [] := by
  unfold jb_PM_isIn_0 at hJ
  refine mv_lload_n (pc := 0) (i := 0) de_PM_isIn_0 rfl 0 rfl ?_
  refine mv_lload_n (pc := 1) (i := 2) de_PM_isIn_1 rfl 1 rfl ?_
  refine mv_lcmp (pc := 2) de_PM_isIn_2 ?_
  refine mv_if_lt (pc := 3) (tgt := 17) de_PM_isIn_3 (by decide) hJ (fun hc3 h3 => ?_) (fun hc3 h3 => ?_)
  · exact mv_sub [] rfl (tb_PM_isIn_17 l D E B sa M0 M1 r N M h3)
  · refine mv_lload_n (pc := 6) (i := 0) de_PM_isIn_6 rfl 0 rfl ?_
    refine mv_lload (pc := 7) de_PM_isIn_7 2 rfl ?_
    refine mv_lcmp (pc := 9) de_PM_isIn_9 ?_
    refine mv_if_gt (pc := 10) (tgt := 17) de_PM_isIn_10 (by decide) h3 (fun hc10 h10 => ?_) (fun hc10 h10 => ?_)
    · exact mv_sub [] rfl (tb_PM_isIn_17 l D E B sa M0 M1 r N M h10)
    · refine mv_iconst (pc := 13) (v := 1) de_PM_isIn_13 (by decide) ?_
      refine mv_goto (pc := 14) (tgt := 18) de_PM_isIn_14 (by decide) ?_
      exact mv_sub [] rfl (tb_PM_isIn_18 l D E B sa M0 M1 r N M 1 h10)
theorem cm_PM_isIn (l : Launch) (D : va_G) (E : Nat → ClassId) (B : Nat) (sa : (Nat → Nat) × Nat × (Nat → Int32)) (N : Nat) (M : mv_M) (v0 : Int64) (v2 : Int64) (v4 : Int64) (r : Int32) (M1 : mv_M) (hJ : jf_PM_isIn N M v0 v2 v4 = some (r, M1)) : mv_Met (xg l D E B sa) yn_PM_isIn cd_PM_isIn 6 (some .boolean) 0 0 [.long v0, .long v2, .long v4] M (some (.int r)) M1 :=
  mv_enter (by decide) (Nat.le_of_ble_eq_true rfl) (mv_sub (lv := [(0, .long v0), (2, .long v2), (4, .long v4)]) [0, 1, 2] rfl (tb_PM_isIn_0 l D E B sa M M1 r N M v0 v2 v4 hJ))
/-! ===== PlainLearnerModel.sideOf(II)I ===== -/
abbrev kd_PM_sideOf : mv_Kd := (cd_PM_sideOf, 3, "PlainLearnerModel", "sideOf", (some .int), 0, 0)
theorem de_PM_sideOf_0 : decode cd_PM_sideOf 0 = .ok (.iload_n 2, 1) := by decide +kernel
theorem de_PM_sideOf_1 : decode cd_PM_sideOf 1 = .ok (.aload_n 0, 1) := by decide +kernel
theorem de_PM_sideOf_2 : decode cd_PM_sideOf 2 = .ok (.getfield 19, 3) := by decide +kernel
theorem de_PM_sideOf_5 : decode cd_PM_sideOf 5 = .ok (.iload_n 1, 1) := by decide +kernel
theorem de_PM_sideOf_6 : decode cd_PM_sideOf 6 = .ok (.iaload, 1) := by decide +kernel
theorem de_PM_sideOf_7 : decode cd_PM_sideOf 7 = .ok (.if_icmp .ge 16, 3) := by decide +kernel
theorem de_PM_sideOf_10 : decode cd_PM_sideOf 10 = .ok (.aload_n 0, 1) := by decide +kernel
theorem de_PM_sideOf_11 : decode cd_PM_sideOf 11 = .ok (.getfield 22, 3) := by decide +kernel
theorem de_PM_sideOf_14 : decode cd_PM_sideOf 14 = .ok (.iconst 3, 1) := by decide +kernel
theorem de_PM_sideOf_15 : decode cd_PM_sideOf 15 = .ok (.iload_n 1, 1) := by decide +kernel
theorem de_PM_sideOf_16 : decode cd_PM_sideOf 16 = .ok (.imul, 1) := by decide +kernel
theorem de_PM_sideOf_17 : decode cd_PM_sideOf 17 = .ok (.iload_n 2, 1) := by decide +kernel
theorem de_PM_sideOf_18 : decode cd_PM_sideOf 18 = .ok (.iadd, 1) := by decide +kernel
theorem de_PM_sideOf_19 : decode cd_PM_sideOf 19 = .ok (.iaload, 1) := by decide +kernel
theorem de_PM_sideOf_20 : decode cd_PM_sideOf 20 = .ok (.goto 4, 3) := by decide +kernel
theorem de_PM_sideOf_23 : decode cd_PM_sideOf 23 = .ok (.iconst 0, 1) := by decide +kernel
theorem de_PM_sideOf_24 : decode cd_PM_sideOf 24 = .ok (.ireturn, 1) := by decide +kernel
def jb_PM_sideOf_24 (N : Nat) (M : mv_M) (s0 : Int32) : Option (Int32 × mv_M) :=
  some (s0, M)
def jb_PM_sideOf_0 (N : Nat) (M : mv_M) (v0 : Nat) (v1 : Int32) (v2 : Int32) : Option (Int32 × mv_M) :=
  Option.bind (mj_getR M v0 1 6) fun x2 =>
  Option.bind x2 fun a6 =>
  Option.bind (mj_ild M a6 0 v1) fun x6 =>
  if x6 ≤ v2 then (jb_PM_sideOf_24 N M 0) else
  Option.bind (mj_getR M v0 1 7) fun x11 =>
  Option.bind x11 fun a19 =>
  Option.bind (mj_ild M a19 0 ((3 * v1) + v2)) fun x19 =>
  jb_PM_sideOf_24 N M x19
def jf_PM_sideOf (N : Nat) (M : mv_M) (v0 : Nat) (v1 : Int32) (v2 : Int32) : Option (Int32 × mv_M) := jb_PM_sideOf_0 N M v0 v1 v2
set_option maxHeartbeats 4000000 in
set_option maxRecDepth 100000 in
theorem tb_PM_sideOf_24 (l : Launch) (D : va_G) (E : Nat → ClassId) (B : Nat) (sa : (Nat → Nat) × Nat × (Nat → Int32)) (M0 M1 : mv_M) (r : Int32) (N : Nat) (M : mv_M) (s0 : Int32) (hJ : jb_PM_sideOf_24 N M s0 = some (r, M1)) : mv_G (xg l D E B sa) kd_PM_sideOf M0 M1 (some (.int r)) M 24 [] [.int s0] := by
  unfold jb_PM_sideOf_24 at hJ
  exact mv_iret (pc := 24) rfl de_PM_sideOf_24 hJ
set_option maxHeartbeats 4000000 in
set_option maxRecDepth 100000 in
theorem tb_PM_sideOf_0 (l : Launch) (D : va_G) (E : Nat → ClassId) (B : Nat) (sa : (Nat → Nat) × Nat × (Nat → Int32)) (M0 M1 : mv_M) (r : Int32) (N : Nat) (M : mv_M) (v0 : Nat) (v1 : Int32) (v2 : Int32) (hJ : jb_PM_sideOf_0 N M v0 v1 v2 = some (r, M1)) : mv_G (xg l D E B sa) kd_PM_sideOf M0 M1 (some (.int r)) M 0 [(0, va_rf (some v0)), (1, .int v1), (2, .int v2)] [] := by
  unfold jb_PM_sideOf_0 at hJ
  refine mv_iload_n (pc := 0) (i := 2) de_PM_sideOf_0 rfl 2 rfl ?_
  refine mv_aload_n (pc := 1) (i := 0) de_PM_sideOf_1 rfl 0 rfl ?_
  refine mv_getR (pc := 2) (f := 6) (kc_1 l D E B sa) (Nat.le_of_ble_eq_true rfl) wt_4_86 de_PM_sideOf_2 hJ (fun x2 e2 h2 => ?_)
  refine mv_iload_n (pc := 5) (i := 1) de_PM_sideOf_5 rfl 1 rfl ?_
  obtain ⟨a6, ha, h6a⟩ := mj_bindE h2
  subst ha
  refine mv_iald (pc := 6) (t := 0) rfl de_PM_sideOf_6 h6a (fun x6 e6 h6 => ?_)
  refine mv_icmp_ge (pc := 7) (tgt := 23) de_PM_sideOf_7 (by decide) h6 (fun hc7 h7 => ?_) (fun hc7 h7 => ?_)
  · refine mv_iconst (pc := 23) (v := 0) de_PM_sideOf_23 (by decide) ?_
    exact mv_sub [] rfl (tb_PM_sideOf_24 l D E B sa M0 M1 r N M 0 h7)
  · refine mv_aload_n (pc := 10) (i := 0) de_PM_sideOf_10 rfl 0 rfl ?_
    refine mv_getR (pc := 11) (f := 7) (kc_1 l D E B sa) (Nat.le_of_ble_eq_true rfl) wt_4_87 de_PM_sideOf_11 h7 (fun x11 e11 h11 => ?_)
    refine mv_iconst (pc := 14) (v := 3) de_PM_sideOf_14 (by decide) ?_
    refine mv_iload_n (pc := 15) (i := 1) de_PM_sideOf_15 rfl 1 rfl ?_
    refine mv_imul (pc := 16) de_PM_sideOf_16 ?_
    refine mv_iload_n (pc := 17) (i := 2) de_PM_sideOf_17 rfl 2 rfl ?_
    refine mv_iadd (pc := 18) de_PM_sideOf_18 ?_
    obtain ⟨a19, ha, h19a⟩ := mj_bindE h11
    subst ha
    refine mv_iald (pc := 19) (t := 0) rfl de_PM_sideOf_19 h19a (fun x19 e19 h19 => ?_)
    refine mv_goto (pc := 20) (tgt := 24) de_PM_sideOf_20 (by decide) ?_
    exact mv_sub [] rfl (tb_PM_sideOf_24 l D E B sa M0 M1 r N M x19 h19)
theorem cm_PM_sideOf (l : Launch) (D : va_G) (E : Nat → ClassId) (B : Nat) (sa : (Nat → Nat) × Nat × (Nat → Int32)) (N : Nat) (M : mv_M) (v0 : Nat) (v1 : Int32) (v2 : Int32) (r : Int32) (M1 : mv_M) (hJ : jf_PM_sideOf N M v0 v1 v2 = some (r, M1)) : mv_Met (xg l D E B sa) yn_PM_sideOf cd_PM_sideOf 3 (some .int) 0 0 [va_rf (some v0), .int v1, .int v2] M (some (.int r)) M1 :=
  mv_enter (by decide) (Nat.le_of_ble_eq_true rfl) (mv_sub (lv := [(0, va_rf (some v0)), (1, .int v1), (2, .int v2)]) [0, 1, 2] rfl (tb_PM_sideOf_0 l D E B sa M M1 r N M v0 v1 v2 hJ))
/-! ===== PlainLearnerModel.cells(I)I ===== -/
abbrev kd_PM_cells : mv_Kd := (cd_PM_cells, 4, "PlainLearnerModel", "cells", (some .int), 0, 0)
theorem de_PM_cells_0 : decode cd_PM_cells 0 = .ok (.iconst 1, 1) := by decide +kernel
theorem de_PM_cells_1 : decode cd_PM_cells 1 = .ok (.istore_n 2, 1) := by decide +kernel
theorem de_PM_cells_2 : decode cd_PM_cells 2 = .ok (.iconst 0, 1) := by decide +kernel
theorem de_PM_cells_3 : decode cd_PM_cells 3 = .ok (.istore_n 3, 1) := by decide +kernel
theorem de_PM_cells_4 : decode cd_PM_cells 4 = .ok (.iload_n 3, 1) := by decide +kernel
theorem de_PM_cells_5 : decode cd_PM_cells 5 = .ok (.aload_n 0, 1) := by decide +kernel
theorem de_PM_cells_6 : decode cd_PM_cells 6 = .ok (.getfield 19, 3) := by decide +kernel
theorem de_PM_cells_9 : decode cd_PM_cells 9 = .ok (.iload_n 1, 1) := by decide +kernel
theorem de_PM_cells_10 : decode cd_PM_cells 10 = .ok (.iaload, 1) := by decide +kernel
theorem de_PM_cells_11 : decode cd_PM_cells 11 = .ok (.if_icmp .ge 22, 3) := by decide +kernel
theorem de_PM_cells_14 : decode cd_PM_cells 14 = .ok (.iload_n 2, 1) := by decide +kernel
theorem de_PM_cells_15 : decode cd_PM_cells 15 = .ok (.aload_n 0, 1) := by decide +kernel
theorem de_PM_cells_16 : decode cd_PM_cells 16 = .ok (.getfield 22, 3) := by decide +kernel
theorem de_PM_cells_19 : decode cd_PM_cells 19 = .ok (.iconst 3, 1) := by decide +kernel
theorem de_PM_cells_20 : decode cd_PM_cells 20 = .ok (.iload_n 1, 1) := by decide +kernel
theorem de_PM_cells_21 : decode cd_PM_cells 21 = .ok (.imul, 1) := by decide +kernel
theorem de_PM_cells_22 : decode cd_PM_cells 22 = .ok (.iload_n 3, 1) := by decide +kernel
theorem de_PM_cells_23 : decode cd_PM_cells 23 = .ok (.iadd, 1) := by decide +kernel
theorem de_PM_cells_24 : decode cd_PM_cells 24 = .ok (.iaload, 1) := by decide +kernel
theorem de_PM_cells_25 : decode cd_PM_cells 25 = .ok (.imul, 1) := by decide +kernel
theorem de_PM_cells_26 : decode cd_PM_cells 26 = .ok (.istore_n 2, 1) := by decide +kernel
theorem de_PM_cells_27 : decode cd_PM_cells 27 = .ok (.iinc 3 1, 3) := by decide +kernel
theorem de_PM_cells_30 : decode cd_PM_cells 30 = .ok (.goto (-26), 3) := by decide +kernel
theorem de_PM_cells_33 : decode cd_PM_cells 33 = .ok (.iload_n 2, 1) := by decide +kernel
theorem de_PM_cells_34 : decode cd_PM_cells 34 = .ok (.ireturn, 1) := by decide +kernel
def jb_PM_cells_4 (N : Nat) : Nat → mv_M → Nat → Int32 → Int32 → Int32 → Option (Int32 × mv_M)
  | 0, _, _, _, _, _ => none
  | n + 1, M, v0, v1, v2, v3 =>
    Option.bind (mj_getR M v0 1 6) fun x6 =>
    Option.bind x6 fun a10 =>
    Option.bind (mj_ild M a10 0 v1) fun x10 =>
    if x10 ≤ v3 then (some (v2, M)) else
    Option.bind (mj_getR M v0 1 7) fun x16 =>
    Option.bind x16 fun a24 =>
    Option.bind (mj_ild M a24 0 ((3 * v1) + v3)) fun x24 =>
    jb_PM_cells_4 N n M v0 v1 (v2 * x24) (v3 + 1)
def jb_PM_cells_0 (N : Nat) (M : mv_M) (v0 : Nat) (v1 : Int32) : Option (Int32 × mv_M) :=
  jb_PM_cells_4 N N M v0 v1 1 0
def jf_PM_cells (N : Nat) (M : mv_M) (v0 : Nat) (v1 : Int32) : Option (Int32 × mv_M) := jb_PM_cells_0 N M v0 v1
set_option maxHeartbeats 4000000 in
set_option maxRecDepth 100000 in
theorem tb_PM_cells_4 (l : Launch) (D : va_G) (E : Nat → ClassId) (B : Nat) (sa : (Nat → Nat) × Nat × (Nat → Int32)) (M0 M1 : mv_M) (r : Int32) (N : Nat) : ∀ (n : Nat) (M : mv_M) (v0 : Nat) (v1 : Int32) (v2 : Int32) (v3 : Int32) (hJ : jb_PM_cells_4 N n M v0 v1 v2 v3 = some (r, M1)), mv_G (xg l D E B sa) kd_PM_cells M0 M1 (some (.int r)) M 4 [(0, va_rf (some v0)), (1, .int v1), (2, .int v2), (3, .int v3)] [] := by
  intro n
  induction n with
  | zero => intro M v0 v1 v2 v3 hJ; cases hJ
  | succ n ih =>
    intro M v0 v1 v2 v3 hJ
    rw [jb_PM_cells_4] at hJ
    refine mv_iload_n (pc := 4) (i := 3) de_PM_cells_4 rfl 3 rfl ?_
    refine mv_aload_n (pc := 5) (i := 0) de_PM_cells_5 rfl 0 rfl ?_
    refine mv_getR (pc := 6) (f := 6) (kc_1 l D E B sa) (Nat.le_of_ble_eq_true rfl) wt_4_86 de_PM_cells_6 hJ (fun x6 e6 h6 => ?_)
    refine mv_iload_n (pc := 9) (i := 1) de_PM_cells_9 rfl 1 rfl ?_
    obtain ⟨a10, ha, h10a⟩ := mj_bindE h6
    subst ha
    refine mv_iald (pc := 10) (t := 0) rfl de_PM_cells_10 h10a (fun x10 e10 h10 => ?_)
    refine mv_icmp_ge (pc := 11) (tgt := 33) de_PM_cells_11 (by decide) h10 (fun hc11 h11 => ?_) (fun hc11 h11 => ?_)
    · refine mv_iload_n (pc := 33) (i := 2) de_PM_cells_33 rfl 2 rfl ?_
      exact mv_iret (pc := 34) rfl de_PM_cells_34 h11
    · refine mv_iload_n (pc := 14) (i := 2) de_PM_cells_14 rfl 2 rfl ?_
      refine mv_aload_n (pc := 15) (i := 0) de_PM_cells_15 rfl 0 rfl ?_
      refine mv_getR (pc := 16) (f := 7) (kc_1 l D E B sa) (Nat.le_of_ble_eq_true rfl) wt_4_87 de_PM_cells_16 h11 (fun x16 e16 h16 => ?_)
      refine mv_iconst (pc := 19) (v := 3) de_PM_cells_19 (by decide) ?_
      refine mv_iload_n (pc := 20) (i := 1) de_PM_cells_20 rfl 1 rfl ?_
      refine mv_imul (pc := 21) de_PM_cells_21 ?_
      refine mv_iload_n (pc := 22) (i := 3) de_PM_cells_22 rfl 3 rfl ?_
      refine mv_iadd (pc := 23) de_PM_cells_23 ?_
      obtain ⟨a24, ha, h24a⟩ := mj_bindE h16
      subst ha
      refine mv_iald (pc := 24) (t := 0) rfl de_PM_cells_24 h24a (fun x24 e24 h24 => ?_)
      refine mv_imul (pc := 25) de_PM_cells_25 ?_
      refine mv_istore_n (pc := 26) (i := 2) (lv' := [(2, .int (v2 * x24)), (0, va_rf (some v0)), (1, .int v1), (3, .int v3)]) de_PM_cells_26 rfl (Nat.le_of_ble_eq_true rfl) rfl ?_
      refine mv_iinc (pc := 27) (v := (v3 + 1)) (lv' := [(3, .int (v3 + 1)), (2, .int (v2 * x24)), (0, va_rf (some v0)), (1, .int v1)]) de_PM_cells_27 3 rfl rfl (Nat.le_of_ble_eq_true rfl) rfl ?_
      refine mv_goto (pc := 30) (tgt := 4) de_PM_cells_30 (by decide) ?_
      exact mv_sub [2, 3, 1, 0] rfl (ih M v0 v1 (v2 * x24) (v3 + 1) h24)
set_option maxHeartbeats 4000000 in
set_option maxRecDepth 100000 in
theorem tb_PM_cells_0 (l : Launch) (D : va_G) (E : Nat → ClassId) (B : Nat) (sa : (Nat → Nat) × Nat × (Nat → Int32)) (M0 M1 : mv_M) (r : Int32) (N : Nat) (M : mv_M) (v0 : Nat) (v1 : Int32) (hJ : jb_PM_cells_0 N M v0 v1 = some (r, M1)) : mv_G (xg l D E B sa) kd_PM_cells M0 M1 (some (.int r)) M 0 [(0, va_rf (some v0)), (1, .int v1)] [] := by
  unfold jb_PM_cells_0 at hJ
  refine mv_iconst (pc := 0) (v := 1) de_PM_cells_0 (by decide) ?_
  refine mv_istore_n (pc := 1) (i := 2) (lv' := [(2, .int 1), (0, va_rf (some v0)), (1, .int v1)]) de_PM_cells_1 rfl (Nat.le_of_ble_eq_true rfl) rfl ?_
  refine mv_iconst (pc := 2) (v := 0) de_PM_cells_2 (by decide) ?_
  refine mv_istore_n (pc := 3) (i := 3) (lv' := [(3, .int 0), (2, .int 1), (0, va_rf (some v0)), (1, .int v1)]) de_PM_cells_3 rfl (Nat.le_of_ble_eq_true rfl) rfl ?_
  exact mv_sub [2, 3, 1, 0] rfl (tb_PM_cells_4 l D E B sa M0 M1 r N N M v0 v1 1 0 hJ)
theorem cm_PM_cells (l : Launch) (D : va_G) (E : Nat → ClassId) (B : Nat) (sa : (Nat → Nat) × Nat × (Nat → Int32)) (N : Nat) (M : mv_M) (v0 : Nat) (v1 : Int32) (r : Int32) (M1 : mv_M) (hJ : jf_PM_cells N M v0 v1 = some (r, M1)) : mv_Met (xg l D E B sa) yn_PM_cells cd_PM_cells 4 (some .int) 0 0 [va_rf (some v0), .int v1] M (some (.int r)) M1 :=
  mv_enter (by decide) (Nat.le_of_ble_eq_true rfl) (mv_sub (lv := [(0, va_rf (some v0)), (1, .int v1)]) [0, 1] rfl (tb_PM_cells_0 l D E B sa M M1 r N M v0 v1 hJ))
/-! ===== PlainLearnerModel.isNode(I)Z ===== -/
abbrev kd_PM_isNode : mv_Kd := (cd_PM_isNode, 2, "PlainLearnerModel", "isNode", (some .boolean), 1, 25)
theorem de_PM_isNode_0 : decode cd_PM_isNode 0 = .ok (.iload_n 1, 1) := by decide +kernel
theorem de_PM_isNode_1 : decode cd_PM_isNode 1 = .ok (.i2l, 1) := by decide +kernel
theorem de_PM_isNode_2 : decode cd_PM_isNode 2 = .ok (.lconst 0, 1) := by decide +kernel
theorem de_PM_isNode_3 : decode cd_PM_isNode 3 = .ok (.aload_n 0, 1) := by decide +kernel
theorem de_PM_isNode_4 : decode cd_PM_isNode 4 = .ok (.getfield 95, 3) := by decide +kernel
theorem de_PM_isNode_7 : decode cd_PM_isNode 7 = .ok (.iconst 1, 1) := by decide +kernel
theorem de_PM_isNode_8 : decode cd_PM_isNode 8 = .ok (.isub, 1) := by decide +kernel
theorem de_PM_isNode_9 : decode cd_PM_isNode 9 = .ok (.i2l, 1) := by decide +kernel
theorem de_PM_isNode_10 : decode cd_PM_isNode 10 = .ok (.invokestatic 99, 3) := by decide +kernel
theorem de_PM_isNode_13 : decode cd_PM_isNode 13 = .ok (.ireturn, 1) := by decide +kernel
def jb_PM_isNode_0 (N : Nat) (M : mv_M) (v0 : Nat) (v1 : Int32) : Option (Int32 × mv_M) :=
  Option.bind (mj_getI M v0 1 2) fun x4 =>
  mj_call (jf_PM_isIn N M v1.toInt64 0 ((x4 - 1).toInt64)) fun r10 Mm10 =>
  if r10 = 0 ∨ r10 = 1 then some (r10, Mm10) else none
def jf_PM_isNode (N : Nat) (M : mv_M) (v0 : Nat) (v1 : Int32) : Option (Int32 × mv_M) := jb_PM_isNode_0 N M v0 v1
set_option maxHeartbeats 4000000 in
set_option maxRecDepth 100000 in
theorem tb_PM_isNode_0 (l : Launch) (D : va_G) (E : Nat → ClassId) (B : Nat) (sa : (Nat → Nat) × Nat × (Nat → Int32)) (M0 M1 : mv_M) (r : Int32) (N : Nat) (M : mv_M) (v0 : Nat) (v1 : Int32) (hJ : jb_PM_isNode_0 N M v0 v1 = some (r, M1)) : mv_G (xg l D E B sa) kd_PM_isNode M0 M1 (some (.int r)) M 0 [(0, va_rf (some v0)), (1, .int v1)] [] := by
  unfold jb_PM_isNode_0 at hJ
  refine mv_iload_n (pc := 0) (i := 1) de_PM_isNode_0 rfl 1 rfl ?_
  refine mv_i2l (pc := 1) de_PM_isNode_1 ?_
  refine mv_lconst (pc := 2) (v := 0) de_PM_isNode_2 (by decide) ?_
  refine mv_aload_n (pc := 3) (i := 0) de_PM_isNode_3 rfl 0 rfl ?_
  refine mv_getI (pc := 4) (f := 2) (kc_1 l D E B sa) (Nat.le_of_ble_eq_true rfl) wt_4_82 de_PM_isNode_4 hJ (fun x4 e4 h4 => ?_)
  refine mv_iconst (pc := 7) (v := 1) de_PM_isNode_7 (by decide) ?_
  refine mv_isub (pc := 8) de_PM_isNode_8 ?_
  refine mv_i2l (pc := 9) de_PM_isNode_9 ?_
  obtain ⟨r10, Mm10, hz10, h10⟩ := mj_callE h4
  refine mv_callS (pc := 10) (n := 3) (av := [.long v1.toInt64, .long 0, .long (x4 - 1).toInt64]) (rest := []) de_PM_isNode_10 (cm_PM_isIn l D E B sa N M v1.toInt64 0 ((x4 - 1).toInt64) _ _ hz10) wt_4_197 wt_4_198 wt_1_8 wt_4_199 ⟨by decide, by decide, by decide +kernel⟩ rfl ⟨Nat.le_of_ble_eq_true rfl, Nat.le_of_ble_eq_true rfl⟩ (Nat.le_of_ble_eq_true rfl) rfl ?_
  exact mv_zret (pc := 13) rfl de_PM_isNode_13 h10
theorem cm_PM_isNode (l : Launch) (D : va_G) (E : Nat → ClassId) (B : Nat) (sa : (Nat → Nat) × Nat × (Nat → Int32)) (N : Nat) (M : mv_M) (v0 : Nat) (v1 : Int32) (r : Int32) (M1 : mv_M) (hJ : jf_PM_isNode N M v0 v1 = some (r, M1)) : mv_Met (xg l D E B sa) yn_PM_isNode cd_PM_isNode 2 (some .boolean) 1 25 [va_rf (some v0), .int v1] M (some (.int r)) M1 :=
  mv_enter (by decide) (Nat.le_of_ble_eq_true rfl) (mv_sub (lv := [(0, va_rf (some v0)), (1, .int v1)]) [0, 1] rfl (tb_PM_isNode_0 l D E B sa M M1 r N M v0 v1 hJ))
/-! ===== PlainLearnerModel.leaf(IIII)I ===== -/
abbrev kd_PM_leaf : mv_Kd := (cd_PM_leaf, 8, "PlainLearnerModel", "leaf", (some .int), 1, 25)
theorem de_PM_leaf_0 : decode cd_PM_leaf 0 = .ok (.iload_n 1, 1) := by decide +kernel
theorem de_PM_leaf_1 : decode cd_PM_leaf 1 = .ok (.i2l, 1) := by decide +kernel
theorem de_PM_leaf_2 : decode cd_PM_leaf 2 = .ok (.lconst 0, 1) := by decide +kernel
theorem de_PM_leaf_3 : decode cd_PM_leaf 3 = .ok (.ldc2_w 103, 3) := by decide +kernel
theorem de_PM_leaf_6 : decode cd_PM_leaf 6 = .ok (.invokestatic 99, 3) := by decide +kernel
theorem de_PM_leaf_9 : decode cd_PM_leaf 9 = .ok (.ifCond .ne 5, 3) := by decide +kernel
theorem de_PM_leaf_12 : decode cd_PM_leaf 12 = .ok (.iconst (-1), 1) := by decide +kernel
theorem de_PM_leaf_13 : decode cd_PM_leaf 13 = .ok (.ireturn, 1) := by decide +kernel
theorem de_PM_leaf_14 : decode cd_PM_leaf 14 = .ok (.iconst 1, 1) := by decide +kernel
theorem de_PM_leaf_15 : decode cd_PM_leaf 15 = .ok (.istore 5, 2) := by decide +kernel
theorem de_PM_leaf_17 : decode cd_PM_leaf 17 = .ok (.iconst 0, 1) := by decide +kernel
theorem de_PM_leaf_18 : decode cd_PM_leaf 18 = .ok (.istore 6, 2) := by decide +kernel
theorem de_PM_leaf_20 : decode cd_PM_leaf 20 = .ok (.iload 6, 2) := by decide +kernel
theorem de_PM_leaf_22 : decode cd_PM_leaf 22 = .ok (.iload_n 1, 1) := by decide +kernel
theorem de_PM_leaf_23 : decode cd_PM_leaf 23 = .ok (.if_icmp .ge 54, 3) := by decide +kernel
theorem de_PM_leaf_26 : decode cd_PM_leaf 26 = .ok (.iload 6, 2) := by decide +kernel
theorem de_PM_leaf_28 : decode cd_PM_leaf 28 = .ok (.ifCond .ne 7, 3) := by decide +kernel
theorem de_PM_leaf_31 : decode cd_PM_leaf 31 = .ok (.iload_n 2, 1) := by decide +kernel
theorem de_PM_leaf_32 : decode cd_PM_leaf 32 = .ok (.goto 15, 3) := by decide +kernel
theorem de_PM_leaf_35 : decode cd_PM_leaf 35 = .ok (.iload 6, 2) := by decide +kernel
theorem de_PM_leaf_37 : decode cd_PM_leaf 37 = .ok (.iconst 1, 1) := by decide +kernel
theorem de_PM_leaf_38 : decode cd_PM_leaf 38 = .ok (.if_icmp .ne 7, 3) := by decide +kernel
theorem de_PM_leaf_41 : decode cd_PM_leaf 41 = .ok (.iload_n 3, 1) := by decide +kernel
theorem de_PM_leaf_42 : decode cd_PM_leaf 42 = .ok (.goto 5, 3) := by decide +kernel
theorem de_PM_leaf_45 : decode cd_PM_leaf 45 = .ok (.iload 4, 2) := by decide +kernel
theorem de_PM_leaf_47 : decode cd_PM_leaf 47 = .ok (.istore 7, 2) := by decide +kernel
theorem de_PM_leaf_49 : decode cd_PM_leaf 49 = .ok (.iload 7, 2) := by decide +kernel
theorem de_PM_leaf_51 : decode cd_PM_leaf 51 = .ok (.i2l, 1) := by decide +kernel
theorem de_PM_leaf_52 : decode cd_PM_leaf 52 = .ok (.lconst 1, 1) := by decide +kernel
theorem de_PM_leaf_53 : decode cd_PM_leaf 53 = .ok (.ldc2_w 105, 3) := by decide +kernel
theorem de_PM_leaf_56 : decode cd_PM_leaf 56 = .ok (.invokestatic 99, 3) := by decide +kernel
theorem de_PM_leaf_59 : decode cd_PM_leaf 59 = .ok (.ifCond .ne 5, 3) := by decide +kernel
theorem de_PM_leaf_62 : decode cd_PM_leaf 62 = .ok (.iconst (-1), 1) := by decide +kernel
theorem de_PM_leaf_63 : decode cd_PM_leaf 63 = .ok (.ireturn, 1) := by decide +kernel
theorem de_PM_leaf_64 : decode cd_PM_leaf 64 = .ok (.iload 5, 2) := by decide +kernel
theorem de_PM_leaf_66 : decode cd_PM_leaf 66 = .ok (.iload 7, 2) := by decide +kernel
theorem de_PM_leaf_68 : decode cd_PM_leaf 68 = .ok (.imul, 1) := by decide +kernel
theorem de_PM_leaf_69 : decode cd_PM_leaf 69 = .ok (.istore 5, 2) := by decide +kernel
theorem de_PM_leaf_71 : decode cd_PM_leaf 71 = .ok (.iinc 6 1, 3) := by decide +kernel
theorem de_PM_leaf_74 : decode cd_PM_leaf 74 = .ok (.goto (-54), 3) := by decide +kernel
theorem de_PM_leaf_77 : decode cd_PM_leaf 77 = .ok (.aload_n 0, 1) := by decide +kernel
theorem de_PM_leaf_78 : decode cd_PM_leaf 78 = .ok (.getfield 95, 3) := by decide +kernel
theorem de_PM_leaf_81 : decode cd_PM_leaf 81 = .ok (.bipush 50, 2) := by decide +kernel
theorem de_PM_leaf_83 : decode cd_PM_leaf 83 = .ok (.if_icmp .eq 10, 3) := by decide +kernel
theorem de_PM_leaf_86 : decode cd_PM_leaf 86 = .ok (.iload 5, 2) := by decide +kernel
theorem de_PM_leaf_88 : decode cd_PM_leaf 88 = .ok (.bipush 64, 2) := by decide +kernel
theorem de_PM_leaf_90 : decode cd_PM_leaf 90 = .ok (.if_icmp .le 6, 3) := by decide +kernel
theorem de_PM_leaf_93 : decode cd_PM_leaf 93 = .ok (.bipush (-3), 2) := by decide +kernel
theorem de_PM_leaf_95 : decode cd_PM_leaf 95 = .ok (.ireturn, 1) := by decide +kernel
theorem de_PM_leaf_96 : decode cd_PM_leaf 96 = .ok (.aload_n 0, 1) := by decide +kernel
theorem de_PM_leaf_97 : decode cd_PM_leaf 97 = .ok (.getfield 7, 3) := by decide +kernel
theorem de_PM_leaf_100 : decode cd_PM_leaf 100 = .ok (.aload_n 0, 1) := by decide +kernel
theorem de_PM_leaf_101 : decode cd_PM_leaf 101 = .ok (.getfield 95, 3) := by decide +kernel
theorem de_PM_leaf_104 : decode cd_PM_leaf 104 = .ok (.bipush (-2), 2) := by decide +kernel
theorem de_PM_leaf_106 : decode cd_PM_leaf 106 = .ok (.iastore, 1) := by decide +kernel
theorem de_PM_leaf_107 : decode cd_PM_leaf 107 = .ok (.aload_n 0, 1) := by decide +kernel
theorem de_PM_leaf_108 : decode cd_PM_leaf 108 = .ok (.getfield 13, 3) := by decide +kernel
theorem de_PM_leaf_111 : decode cd_PM_leaf 111 = .ok (.aload_n 0, 1) := by decide +kernel
theorem de_PM_leaf_112 : decode cd_PM_leaf 112 = .ok (.getfield 95, 3) := by decide +kernel
theorem de_PM_leaf_115 : decode cd_PM_leaf 115 = .ok (.bipush (-2), 2) := by decide +kernel
theorem de_PM_leaf_117 : decode cd_PM_leaf 117 = .ok (.iastore, 1) := by decide +kernel
theorem de_PM_leaf_118 : decode cd_PM_leaf 118 = .ok (.aload_n 0, 1) := by decide +kernel
theorem de_PM_leaf_119 : decode cd_PM_leaf 119 = .ok (.getfield 16, 3) := by decide +kernel
theorem de_PM_leaf_122 : decode cd_PM_leaf 122 = .ok (.aload_n 0, 1) := by decide +kernel
theorem de_PM_leaf_123 : decode cd_PM_leaf 123 = .ok (.getfield 95, 3) := by decide +kernel
theorem de_PM_leaf_126 : decode cd_PM_leaf 126 = .ok (.bipush (-2), 2) := by decide +kernel
theorem de_PM_leaf_128 : decode cd_PM_leaf 128 = .ok (.iastore, 1) := by decide +kernel
theorem de_PM_leaf_129 : decode cd_PM_leaf 129 = .ok (.aload_n 0, 1) := by decide +kernel
theorem de_PM_leaf_130 : decode cd_PM_leaf 130 = .ok (.getfield 19, 3) := by decide +kernel
theorem de_PM_leaf_133 : decode cd_PM_leaf 133 = .ok (.aload_n 0, 1) := by decide +kernel
theorem de_PM_leaf_134 : decode cd_PM_leaf 134 = .ok (.getfield 95, 3) := by decide +kernel
theorem de_PM_leaf_137 : decode cd_PM_leaf 137 = .ok (.iload_n 1, 1) := by decide +kernel
theorem de_PM_leaf_138 : decode cd_PM_leaf 138 = .ok (.iastore, 1) := by decide +kernel
theorem de_PM_leaf_139 : decode cd_PM_leaf 139 = .ok (.iconst 0, 1) := by decide +kernel
theorem de_PM_leaf_140 : decode cd_PM_leaf 140 = .ok (.istore 6, 2) := by decide +kernel
theorem de_PM_leaf_142 : decode cd_PM_leaf 142 = .ok (.iload 6, 2) := by decide +kernel
theorem de_PM_leaf_144 : decode cd_PM_leaf 144 = .ok (.iload_n 1, 1) := by decide +kernel
theorem de_PM_leaf_145 : decode cd_PM_leaf 145 = .ok (.if_icmp .ge 44, 3) := by decide +kernel
theorem de_PM_leaf_148 : decode cd_PM_leaf 148 = .ok (.aload_n 0, 1) := by decide +kernel
theorem de_PM_leaf_149 : decode cd_PM_leaf 149 = .ok (.getfield 22, 3) := by decide +kernel
theorem de_PM_leaf_152 : decode cd_PM_leaf 152 = .ok (.iconst 3, 1) := by decide +kernel
theorem de_PM_leaf_153 : decode cd_PM_leaf 153 = .ok (.aload_n 0, 1) := by decide +kernel
theorem de_PM_leaf_154 : decode cd_PM_leaf 154 = .ok (.getfield 95, 3) := by decide +kernel
theorem de_PM_leaf_157 : decode cd_PM_leaf 157 = .ok (.imul, 1) := by decide +kernel
theorem de_PM_leaf_158 : decode cd_PM_leaf 158 = .ok (.iload 6, 2) := by decide +kernel
theorem de_PM_leaf_160 : decode cd_PM_leaf 160 = .ok (.iadd, 1) := by decide +kernel
theorem de_PM_leaf_161 : decode cd_PM_leaf 161 = .ok (.iload 6, 2) := by decide +kernel
theorem de_PM_leaf_163 : decode cd_PM_leaf 163 = .ok (.ifCond .ne 7, 3) := by decide +kernel
theorem de_PM_leaf_166 : decode cd_PM_leaf 166 = .ok (.iload_n 2, 1) := by decide +kernel
theorem de_PM_leaf_167 : decode cd_PM_leaf 167 = .ok (.goto 15, 3) := by decide +kernel
theorem de_PM_leaf_170 : decode cd_PM_leaf 170 = .ok (.iload 6, 2) := by decide +kernel
theorem de_PM_leaf_172 : decode cd_PM_leaf 172 = .ok (.iconst 1, 1) := by decide +kernel
theorem de_PM_leaf_173 : decode cd_PM_leaf 173 = .ok (.if_icmp .ne 7, 3) := by decide +kernel
theorem de_PM_leaf_176 : decode cd_PM_leaf 176 = .ok (.iload_n 3, 1) := by decide +kernel
theorem de_PM_leaf_177 : decode cd_PM_leaf 177 = .ok (.goto 5, 3) := by decide +kernel
theorem de_PM_leaf_180 : decode cd_PM_leaf 180 = .ok (.iload 4, 2) := by decide +kernel
theorem de_PM_leaf_182 : decode cd_PM_leaf 182 = .ok (.iastore, 1) := by decide +kernel
theorem de_PM_leaf_183 : decode cd_PM_leaf 183 = .ok (.iinc 6 1, 3) := by decide +kernel
theorem de_PM_leaf_186 : decode cd_PM_leaf 186 = .ok (.goto (-44), 3) := by decide +kernel
theorem de_PM_leaf_189 : decode cd_PM_leaf 189 = .ok (.iconst 0, 1) := by decide +kernel
theorem de_PM_leaf_190 : decode cd_PM_leaf 190 = .ok (.istore 6, 2) := by decide +kernel
theorem de_PM_leaf_192 : decode cd_PM_leaf 192 = .ok (.iload 6, 2) := by decide +kernel
theorem de_PM_leaf_194 : decode cd_PM_leaf 194 = .ok (.iload 5, 2) := by decide +kernel
theorem de_PM_leaf_196 : decode cd_PM_leaf 196 = .ok (.if_icmp .ge 41, 3) := by decide +kernel
theorem de_PM_leaf_199 : decode cd_PM_leaf 199 = .ok (.aload_n 0, 1) := by decide +kernel
theorem de_PM_leaf_200 : decode cd_PM_leaf 200 = .ok (.getfield 29, 3) := by decide +kernel
theorem de_PM_leaf_203 : decode cd_PM_leaf 203 = .ok (.bipush 64, 2) := by decide +kernel
theorem de_PM_leaf_205 : decode cd_PM_leaf 205 = .ok (.aload_n 0, 1) := by decide +kernel
theorem de_PM_leaf_206 : decode cd_PM_leaf 206 = .ok (.getfield 95, 3) := by decide +kernel
theorem de_PM_leaf_209 : decode cd_PM_leaf 209 = .ok (.imul, 1) := by decide +kernel
theorem de_PM_leaf_210 : decode cd_PM_leaf 210 = .ok (.iload 6, 2) := by decide +kernel
theorem de_PM_leaf_212 : decode cd_PM_leaf 212 = .ok (.iadd, 1) := by decide +kernel
theorem de_PM_leaf_213 : decode cd_PM_leaf 213 = .ok (.lconst 0, 1) := by decide +kernel
theorem de_PM_leaf_214 : decode cd_PM_leaf 214 = .ok (.lastore, 1) := by decide +kernel
theorem de_PM_leaf_215 : decode cd_PM_leaf 215 = .ok (.aload_n 0, 1) := by decide +kernel
theorem de_PM_leaf_216 : decode cd_PM_leaf 216 = .ok (.getfield 33, 3) := by decide +kernel
theorem de_PM_leaf_219 : decode cd_PM_leaf 219 = .ok (.bipush 64, 2) := by decide +kernel
theorem de_PM_leaf_221 : decode cd_PM_leaf 221 = .ok (.aload_n 0, 1) := by decide +kernel
theorem de_PM_leaf_222 : decode cd_PM_leaf 222 = .ok (.getfield 95, 3) := by decide +kernel
theorem de_PM_leaf_225 : decode cd_PM_leaf 225 = .ok (.imul, 1) := by decide +kernel
theorem de_PM_leaf_226 : decode cd_PM_leaf 226 = .ok (.iload 6, 2) := by decide +kernel
theorem de_PM_leaf_228 : decode cd_PM_leaf 228 = .ok (.iadd, 1) := by decide +kernel
theorem de_PM_leaf_229 : decode cd_PM_leaf 229 = .ok (.lconst 1, 1) := by decide +kernel
theorem de_PM_leaf_230 : decode cd_PM_leaf 230 = .ok (.lastore, 1) := by decide +kernel
theorem de_PM_leaf_231 : decode cd_PM_leaf 231 = .ok (.iinc 6 1, 3) := by decide +kernel
theorem de_PM_leaf_234 : decode cd_PM_leaf 234 = .ok (.goto (-42), 3) := by decide +kernel
theorem de_PM_leaf_237 : decode cd_PM_leaf 237 = .ok (.aload_n 0, 1) := by decide +kernel
theorem de_PM_leaf_238 : decode cd_PM_leaf 238 = .ok (.dup, 1) := by decide +kernel
theorem de_PM_leaf_239 : decode cd_PM_leaf 239 = .ok (.getfield 95, 3) := by decide +kernel
theorem de_PM_leaf_242 : decode cd_PM_leaf 242 = .ok (.dup_x1, 1) := by decide +kernel
theorem de_PM_leaf_243 : decode cd_PM_leaf 243 = .ok (.iconst 1, 1) := by decide +kernel
theorem de_PM_leaf_244 : decode cd_PM_leaf 244 = .ok (.iadd, 1) := by decide +kernel
theorem de_PM_leaf_245 : decode cd_PM_leaf 245 = .ok (.putfield 95, 3) := by decide +kernel
theorem de_PM_leaf_248 : decode cd_PM_leaf 248 = .ok (.ireturn, 1) := by decide +kernel
def jb_PM_leaf_93 (N : Nat) (M : mv_M) : Option (Int32 × mv_M) :=
  some ((-3), M)
def jb_PM_leaf_192 (N : Nat) : Nat → mv_M → Nat → Int32 → Int32 → Option (Int32 × mv_M)
  | 0, _, _, _, _ => none
  | n + 1, M, v0, v5, v6 =>
    if v5 ≤ v6 then (Option.bind (mj_getI M v0 1 2) fun x239 =>
    Option.bind (mj_put M v0 1 2 (.int (x239 + 1))) fun Mm245 =>
    some (x239, Mm245)) else
    Option.bind (mj_getR M v0 1 9) fun x200 =>
    Option.bind (mj_getI M v0 1 2) fun x206 =>
    Option.bind x200 fun a214 =>
    Option.bind (mj_lst M a214 1 ((64 * x206) + v6) 0) fun Mm214 =>
    Option.bind (mj_getR Mm214 v0 1 10) fun x216 =>
    Option.bind (mj_getI Mm214 v0 1 2) fun x222 =>
    Option.bind x216 fun a230 =>
    Option.bind (mj_lst Mm214 a230 1 ((64 * x222) + v6) 1) fun Mm230 =>
    jb_PM_leaf_192 N n Mm230 v0 v5 (v6 + 1)
def jb_PM_leaf_182 (N : Nat) (k142 : mv_M → Nat → Int32 → Int32 → Int32 → Int32 → Int32 → Int32 → Option (Int32 × mv_M)) (M : mv_M) (v0 : Nat) (v1 : Int32) (v2 : Int32) (v3 : Int32) (v4 : Int32) (v5 : Int32) (v6 : Int32) (s0 : Option Nat) (s1 : Int32) (s2 : Int32) : Option (Int32 × mv_M) :=
  Option.bind s0 fun a182 =>
  Option.bind (mj_ist M a182 0 s1 s2) fun Mm182 =>
  k142 Mm182 v0 v1 v2 v3 v4 v5 (v6 + 1)
def jb_PM_leaf_142 (N : Nat) : Nat → mv_M → Nat → Int32 → Int32 → Int32 → Int32 → Int32 → Int32 → Option (Int32 × mv_M)
  | 0, _, _, _, _, _, _, _, _ => none
  | n + 1, M, v0, v1, v2, v3, v4, v5, v6 =>
    if v1 ≤ v6 then (jb_PM_leaf_192 N N M v0 v5 0) else
    Option.bind (mj_getR M v0 1 7) fun x149 =>
    Option.bind (mj_getI M v0 1 2) fun x154 =>
    if v6 = 0 then (jb_PM_leaf_182 N (jb_PM_leaf_142 N n) M v0 v1 v2 v3 v4 v5 v6 x149 ((3 * x154) + v6) v2) else
    if v6 = 1 then (jb_PM_leaf_182 N (jb_PM_leaf_142 N n) M v0 v1 v2 v3 v4 v5 v6 x149 ((3 * x154) + v6) v3) else
    jb_PM_leaf_182 N (jb_PM_leaf_142 N n) M v0 v1 v2 v3 v4 v5 v6 x149 ((3 * x154) + v6) v4
def jb_PM_leaf_47 (N : Nat) (k20 : mv_M → Nat → Int32 → Int32 → Int32 → Int32 → Int32 → Int32 → Option (Int32 × mv_M)) (M : mv_M) (v0 : Nat) (v1 : Int32) (v2 : Int32) (v3 : Int32) (v4 : Int32) (v5 : Int32) (v6 : Int32) (s0 : Int32) : Option (Int32 × mv_M) :=
  mj_call (jf_PM_isIn N M s0.toInt64 1 64) fun r56 Mm56 =>
  if r56 = 0 then (some ((-1), Mm56)) else
  k20 Mm56 v0 v1 v2 v3 v4 (v5 * s0) (v6 + 1)
def jb_PM_leaf_20 (N : Nat) : Nat → mv_M → Nat → Int32 → Int32 → Int32 → Int32 → Int32 → Int32 → Option (Int32 × mv_M)
  | 0, _, _, _, _, _, _, _, _ => none
  | n + 1, M, v0, v1, v2, v3, v4, v5, v6 =>
    if v1 ≤ v6 then (Option.bind (mj_getI M v0 1 2) fun x78 =>
    if x78 = 50 then (jb_PM_leaf_93 N M) else
    if v5 ≤ 64 then (Option.bind (mj_getR M v0 1 3) fun x97 =>
    Option.bind (mj_getI M v0 1 2) fun x101 =>
    Option.bind x97 fun a106 =>
    Option.bind (mj_ist M a106 0 x101 (-2)) fun Mm106 =>
    Option.bind (mj_getR Mm106 v0 1 4) fun x108 =>
    Option.bind (mj_getI Mm106 v0 1 2) fun x112 =>
    Option.bind x108 fun a117 =>
    Option.bind (mj_ist Mm106 a117 0 x112 (-2)) fun Mm117 =>
    Option.bind (mj_getR Mm117 v0 1 5) fun x119 =>
    Option.bind (mj_getI Mm117 v0 1 2) fun x123 =>
    Option.bind x119 fun a128 =>
    Option.bind (mj_ist Mm117 a128 0 x123 (-2)) fun Mm128 =>
    Option.bind (mj_getR Mm128 v0 1 6) fun x130 =>
    Option.bind (mj_getI Mm128 v0 1 2) fun x134 =>
    Option.bind x130 fun a138 =>
    Option.bind (mj_ist Mm128 a138 0 x134 v1) fun Mm138 =>
    jb_PM_leaf_142 N N Mm138 v0 v1 v2 v3 v4 v5 0) else
    jb_PM_leaf_93 N M) else
    if v6 = 0 then (jb_PM_leaf_47 N (jb_PM_leaf_20 N n) M v0 v1 v2 v3 v4 v5 v6 v2) else
    if v6 = 1 then (jb_PM_leaf_47 N (jb_PM_leaf_20 N n) M v0 v1 v2 v3 v4 v5 v6 v3) else
    jb_PM_leaf_47 N (jb_PM_leaf_20 N n) M v0 v1 v2 v3 v4 v5 v6 v4
def jb_PM_leaf_0 (N : Nat) (M : mv_M) (v0 : Nat) (v1 : Int32) (v2 : Int32) (v3 : Int32) (v4 : Int32) : Option (Int32 × mv_M) :=
  mj_call (jf_PM_isIn N M v1.toInt64 0 3) fun r6 Mm6 =>
  if r6 = 0 then (some ((-1), Mm6)) else
  jb_PM_leaf_20 N N Mm6 v0 v1 v2 v3 v4 1 0
def jf_PM_leaf (N : Nat) (M : mv_M) (v0 : Nat) (v1 : Int32) (v2 : Int32) (v3 : Int32) (v4 : Int32) : Option (Int32 × mv_M) := jb_PM_leaf_0 N M v0 v1 v2 v3 v4
set_option maxHeartbeats 4000000 in
set_option maxRecDepth 100000 in
theorem tb_PM_leaf_93 (l : Launch) (D : va_G) (E : Nat → ClassId) (B : Nat) (sa : (Nat → Nat) × Nat × (Nat → Int32)) (M0 M1 : mv_M) (r : Int32) (N : Nat) (M : mv_M) (hJ : jb_PM_leaf_93 N M = some (r, M1)) : mv_G (xg l D E B sa) kd_PM_leaf M0 M1 (some (.int r)) M 93 [] [] := by
  unfold jb_PM_leaf_93 at hJ
  refine mv_bipush (pc := 93) (v := (-3)) de_PM_leaf_93 (by decide) ?_
  exact mv_iret (pc := 95) rfl de_PM_leaf_95 hJ
set_option maxHeartbeats 4000000 in
set_option maxRecDepth 100000 in
theorem tb_PM_leaf_192 (l : Launch) (D : va_G) (E : Nat → ClassId) (B : Nat) (sa : (Nat → Nat) × Nat × (Nat → Int32)) (M0 M1 : mv_M) (r : Int32) (N : Nat) : ∀ (n : Nat) (M : mv_M) (v0 : Nat) (v5 : Int32) (v6 : Int32) (hJ : jb_PM_leaf_192 N n M v0 v5 v6 = some (r, M1)), mv_G (xg l D E B sa) kd_PM_leaf M0 M1 (some (.int r)) M 192 [(0, va_rf (some v0)), (5, .int v5), (6, .int v6)] [] := by
  intro n
  induction n with
  | zero => intro M v0 v5 v6 hJ; cases hJ
  | succ n ih =>
    intro M v0 v5 v6 hJ
    rw [jb_PM_leaf_192] at hJ
    refine mv_iload (pc := 192) de_PM_leaf_192 2 rfl ?_
    refine mv_iload (pc := 194) de_PM_leaf_194 1 rfl ?_
    refine mv_icmp_ge (pc := 196) (tgt := 237) de_PM_leaf_196 (by decide) hJ (fun hc196 h196 => ?_) (fun hc196 h196 => ?_)
    · refine mv_aload_n (pc := 237) (i := 0) de_PM_leaf_237 rfl 0 rfl ?_
      refine mv_dup (pc := 238) de_PM_leaf_238 rfl ?_
      refine mv_getI (pc := 239) (f := 2) (kc_1 l D E B sa) (Nat.le_of_ble_eq_true rfl) wt_4_82 de_PM_leaf_239 h196 (fun x239 e239 h239 => ?_)
      refine mv_dup_x1 (pc := 242) de_PM_leaf_242 rfl rfl ?_
      refine mv_iconst (pc := 243) (v := 1) de_PM_leaf_243 (by decide) ?_
      refine mv_iadd (pc := 244) de_PM_leaf_244 ?_
      refine mv_put (pc := 245) (f := 2) (kc_1 l D E B sa) (Nat.le_of_ble_eq_true rfl) wt_4_82 rfl rfl rfl de_PM_leaf_245 h239 (fun Mm245 e245 h245 => ?_)
      exact mv_iret (pc := 248) rfl de_PM_leaf_248 h245
    · refine mv_aload_n (pc := 199) (i := 0) de_PM_leaf_199 rfl 0 rfl ?_
      refine mv_getR (pc := 200) (f := 9) (kc_1 l D E B sa) (Nat.le_of_ble_eq_true rfl) wt_4_89 de_PM_leaf_200 h196 (fun x200 e200 h200 => ?_)
      refine mv_bipush (pc := 203) (v := 64) de_PM_leaf_203 (by decide) ?_
      refine mv_aload_n (pc := 205) (i := 0) de_PM_leaf_205 rfl 0 rfl ?_
      refine mv_getI (pc := 206) (f := 2) (kc_1 l D E B sa) (Nat.le_of_ble_eq_true rfl) wt_4_82 de_PM_leaf_206 h200 (fun x206 e206 h206 => ?_)
      refine mv_imul (pc := 209) de_PM_leaf_209 ?_
      refine mv_iload (pc := 210) de_PM_leaf_210 2 rfl ?_
      refine mv_iadd (pc := 212) de_PM_leaf_212 ?_
      refine mv_lconst (pc := 213) (v := 0) de_PM_leaf_213 (by decide) ?_
      obtain ⟨a214, ha, h214a⟩ := mj_bindE h206
      subst ha
      refine mv_last (pc := 214) (t := 1) rfl de_PM_leaf_214 h214a (fun Mm214 e214 h214 => ?_)
      refine mv_aload_n (pc := 215) (i := 0) de_PM_leaf_215 rfl 0 rfl ?_
      refine mv_getR (pc := 216) (f := 10) (kc_1 l D E B sa) (Nat.le_of_ble_eq_true rfl) wt_4_90 de_PM_leaf_216 h214 (fun x216 e216 h216 => ?_)
      refine mv_bipush (pc := 219) (v := 64) de_PM_leaf_219 (by decide) ?_
      refine mv_aload_n (pc := 221) (i := 0) de_PM_leaf_221 rfl 0 rfl ?_
      refine mv_getI (pc := 222) (f := 2) (kc_1 l D E B sa) (Nat.le_of_ble_eq_true rfl) wt_4_82 de_PM_leaf_222 h216 (fun x222 e222 h222 => ?_)
      refine mv_imul (pc := 225) de_PM_leaf_225 ?_
      refine mv_iload (pc := 226) de_PM_leaf_226 2 rfl ?_
      refine mv_iadd (pc := 228) de_PM_leaf_228 ?_
      refine mv_lconst (pc := 229) (v := 1) de_PM_leaf_229 (by decide) ?_
      obtain ⟨a230, ha, h230a⟩ := mj_bindE h222
      subst ha
      refine mv_last (pc := 230) (t := 1) rfl de_PM_leaf_230 h230a (fun Mm230 e230 h230 => ?_)
      refine mv_iinc (pc := 231) (v := (v6 + 1)) (lv' := [(6, .int (v6 + 1)), (0, va_rf (some v0)), (5, .int v5)]) de_PM_leaf_231 2 rfl rfl (Nat.le_of_ble_eq_true rfl) rfl ?_
      refine mv_goto (pc := 234) (tgt := 192) de_PM_leaf_234 (by decide) ?_
      exact mv_sub [1, 2, 0] rfl (ih Mm230 v0 v5 (v6 + 1) h230)
set_option maxHeartbeats 4000000 in
set_option maxRecDepth 100000 in
theorem tb_PM_leaf_182 (l : Launch) (D : va_G) (E : Nat → ClassId) (B : Nat) (sa : (Nat → Nat) × Nat × (Nat → Int32)) (M0 M1 : mv_M) (r : Int32) (N : Nat) (k142 : mv_M → Nat → Int32 → Int32 → Int32 → Int32 → Int32 → Int32 → Option (Int32 × mv_M)) (hk142 : ∀ (M : mv_M) (v0 : Nat) (v1 : Int32) (v2 : Int32) (v3 : Int32) (v4 : Int32) (v5 : Int32) (v6 : Int32), k142 M v0 v1 v2 v3 v4 v5 v6 = some (r, M1) → mv_G (xg l D E B sa) kd_PM_leaf M0 M1 (some (.int r)) M 142 [(0, va_rf (some v0)), (1, .int v1), (2, .int v2), (3, .int v3), (4, .int v4), (5, .int v5), (6, .int v6)] []) (M : mv_M) (v0 : Nat) (v1 : Int32) (v2 : Int32) (v3 : Int32) (v4 : Int32) (v5 : Int32) (v6 : Int32) (s0 : Option Nat) (s1 : Int32) (s2 : Int32) (hJ : jb_PM_leaf_182 N k142 M v0 v1 v2 v3 v4 v5 v6 s0 s1 s2 = some (r, M1)) : mv_G (xg l D E B sa) kd_PM_leaf M0 M1 (some (.int r)) M 182 [(0, va_rf (some v0)), (1, .int v1), (2, .int v2), (3, .int v3), (4, .int v4), (5, .int v5), (6, .int v6)] [.int s2, .int s1, va_rf s0] := by
  unfold jb_PM_leaf_182 at hJ
  obtain ⟨a182, ha, h182a⟩ := mj_bindE hJ
  subst ha
  refine mv_iast (pc := 182) (t := 0) rfl de_PM_leaf_182 h182a (fun Mm182 e182 h182 => ?_)
  refine mv_iinc (pc := 183) (v := (v6 + 1)) (lv' := [(6, .int (v6 + 1)), (0, va_rf (some v0)), (1, .int v1), (2, .int v2), (3, .int v3), (4, .int v4), (5, .int v5)]) de_PM_leaf_183 6 rfl rfl (Nat.le_of_ble_eq_true rfl) rfl ?_
  refine mv_goto (pc := 186) (tgt := 142) de_PM_leaf_186 (by decide) ?_
  exact mv_sub [1, 2, 3, 4, 5, 6, 0] rfl (hk142 Mm182 v0 v1 v2 v3 v4 v5 (v6 + 1) h182)
set_option maxHeartbeats 4000000 in
set_option maxRecDepth 100000 in
theorem tb_PM_leaf_142 (l : Launch) (D : va_G) (E : Nat → ClassId) (B : Nat) (sa : (Nat → Nat) × Nat × (Nat → Int32)) (M0 M1 : mv_M) (r : Int32) (N : Nat) : ∀ (n : Nat) (M : mv_M) (v0 : Nat) (v1 : Int32) (v2 : Int32) (v3 : Int32) (v4 : Int32) (v5 : Int32) (v6 : Int32) (hJ : jb_PM_leaf_142 N n M v0 v1 v2 v3 v4 v5 v6 = some (r, M1)), mv_G (xg l D E B sa) kd_PM_leaf M0 M1 (some (.int r)) M 142 [(0, va_rf (some v0)), (1, .int v1), (2, .int v2), (3, .int v3), (4, .int v4), (5, .int v5), (6, .int v6)] [] := by
  intro n
  induction n with
  | zero => intro M v0 v1 v2 v3 v4 v5 v6 hJ; cases hJ
  | succ n ih =>
    intro M v0 v1 v2 v3 v4 v5 v6 hJ
    rw [jb_PM_leaf_142] at hJ
    refine mv_iload (pc := 142) de_PM_leaf_142 6 rfl ?_
    refine mv_iload_n (pc := 144) (i := 1) de_PM_leaf_144 rfl 1 rfl ?_
    refine mv_icmp_ge (pc := 145) (tgt := 189) de_PM_leaf_145 (by decide) hJ (fun hc145 h145 => ?_) (fun hc145 h145 => ?_)
    · refine mv_iconst (pc := 189) (v := 0) de_PM_leaf_189 (by decide) ?_
      refine mv_istore (pc := 190) (lv' := [(6, .int 0), (0, va_rf (some v0)), (1, .int v1), (2, .int v2), (3, .int v3), (4, .int v4), (5, .int v5)]) de_PM_leaf_190 (Nat.le_of_ble_eq_true rfl) rfl ?_
      exact mv_sub [1, 6, 0] rfl (tb_PM_leaf_192 l D E B sa M0 M1 r N N M v0 v5 0 h145)
    · refine mv_aload_n (pc := 148) (i := 0) de_PM_leaf_148 rfl 0 rfl ?_
      refine mv_getR (pc := 149) (f := 7) (kc_1 l D E B sa) (Nat.le_of_ble_eq_true rfl) wt_4_87 de_PM_leaf_149 h145 (fun x149 e149 h149 => ?_)
      refine mv_iconst (pc := 152) (v := 3) de_PM_leaf_152 (by decide) ?_
      refine mv_aload_n (pc := 153) (i := 0) de_PM_leaf_153 rfl 0 rfl ?_
      refine mv_getI (pc := 154) (f := 2) (kc_1 l D E B sa) (Nat.le_of_ble_eq_true rfl) wt_4_82 de_PM_leaf_154 h149 (fun x154 e154 h154 => ?_)
      refine mv_imul (pc := 157) de_PM_leaf_157 ?_
      refine mv_iload (pc := 158) de_PM_leaf_158 6 rfl ?_
      refine mv_iadd (pc := 160) de_PM_leaf_160 ?_
      refine mv_iload (pc := 161) de_PM_leaf_161 6 rfl ?_
      refine mv_if_ne (pc := 163) (tgt := 170) de_PM_leaf_163 (by decide) h154 (fun hc163 h163 => ?_) (fun hc163 h163 => ?_)
      · refine mv_iload_n (pc := 166) (i := 2) de_PM_leaf_166 rfl 2 rfl ?_
        refine mv_goto (pc := 167) (tgt := 182) de_PM_leaf_167 (by decide) ?_
        exact mv_sub [0, 1, 2, 3, 4, 5, 6] rfl (tb_PM_leaf_182 l D E B sa M0 M1 r N (jb_PM_leaf_142 N n) ih M v0 v1 v2 v3 v4 v5 v6 x149 ((3 * x154) + v6) v2 h163)
      · refine mv_iload (pc := 170) de_PM_leaf_170 6 rfl ?_
        refine mv_iconst (pc := 172) (v := 1) de_PM_leaf_172 (by decide) ?_
        refine mv_icmp_ne (pc := 173) (tgt := 180) de_PM_leaf_173 (by decide) h163 (fun hc173 h173 => ?_) (fun hc173 h173 => ?_)
        · refine mv_iload_n (pc := 176) (i := 3) de_PM_leaf_176 rfl 3 rfl ?_
          refine mv_goto (pc := 177) (tgt := 182) de_PM_leaf_177 (by decide) ?_
          exact mv_sub [0, 1, 2, 3, 4, 5, 6] rfl (tb_PM_leaf_182 l D E B sa M0 M1 r N (jb_PM_leaf_142 N n) ih M v0 v1 v2 v3 v4 v5 v6 x149 ((3 * x154) + v6) v3 h173)
        · refine mv_iload (pc := 180) de_PM_leaf_180 4 rfl ?_
          exact mv_sub [0, 1, 2, 3, 4, 5, 6] rfl (tb_PM_leaf_182 l D E B sa M0 M1 r N (jb_PM_leaf_142 N n) ih M v0 v1 v2 v3 v4 v5 v6 x149 ((3 * x154) + v6) v4 h173)
set_option maxHeartbeats 4000000 in
set_option maxRecDepth 100000 in
theorem tb_PM_leaf_47 (l : Launch) (D : va_G) (E : Nat → ClassId) (B : Nat) (sa : (Nat → Nat) × Nat × (Nat → Int32)) (M0 M1 : mv_M) (r : Int32) (N : Nat) (k20 : mv_M → Nat → Int32 → Int32 → Int32 → Int32 → Int32 → Int32 → Option (Int32 × mv_M)) (hk20 : ∀ (M : mv_M) (v0 : Nat) (v1 : Int32) (v2 : Int32) (v3 : Int32) (v4 : Int32) (v5 : Int32) (v6 : Int32), k20 M v0 v1 v2 v3 v4 v5 v6 = some (r, M1) → mv_G (xg l D E B sa) kd_PM_leaf M0 M1 (some (.int r)) M 20 [(0, va_rf (some v0)), (1, .int v1), (2, .int v2), (3, .int v3), (4, .int v4), (5, .int v5), (6, .int v6)] []) (M : mv_M) (v0 : Nat) (v1 : Int32) (v2 : Int32) (v3 : Int32) (v4 : Int32) (v5 : Int32) (v6 : Int32) (s0 : Int32) (hJ : jb_PM_leaf_47 N k20 M v0 v1 v2 v3 v4 v5 v6 s0 = some (r, M1)) : mv_G (xg l D E B sa) kd_PM_leaf M0 M1 (some (.int r)) M 47 [(0, va_rf (some v0)), (1, .int v1), (2, .int v2), (3, .int v3), (4, .int v4), (5, .int v5), (6, .int v6)] [.int s0] := by
  unfold jb_PM_leaf_47 at hJ
  refine mv_istore (pc := 47) (lv' := [(7, .int s0), (0, va_rf (some v0)), (1, .int v1), (2, .int v2), (3, .int v3), (4, .int v4), (5, .int v5), (6, .int v6)]) de_PM_leaf_47 (Nat.le_of_ble_eq_true rfl) rfl ?_
  refine mv_iload (pc := 49) de_PM_leaf_49 0 rfl ?_
  refine mv_i2l (pc := 51) de_PM_leaf_51 ?_
  refine mv_lconst (pc := 52) (v := 1) de_PM_leaf_52 (by decide) ?_
  refine mv_ldc2 (pc := 53) de_PM_leaf_53 wt_4_200 ?_
  obtain ⟨r56, Mm56, hz56, h56⟩ := mj_callE hJ
  refine mv_callS (pc := 56) (n := 3) (av := [.long s0.toInt64, .long 1, .long 64]) (rest := []) de_PM_leaf_56 (cm_PM_isIn l D E B sa N M s0.toInt64 1 64 _ _ hz56) wt_4_197 wt_4_198 wt_1_8 wt_4_199 ⟨by decide, by decide, by decide +kernel⟩ rfl ⟨Nat.le_of_ble_eq_true rfl, Nat.le_of_ble_eq_true rfl⟩ (Nat.le_of_ble_eq_true rfl) rfl ?_
  refine mv_if_ne (pc := 59) (tgt := 64) de_PM_leaf_59 (by decide) h56 (fun hc59 h59 => ?_) (fun hc59 h59 => ?_)
  · refine mv_iconst (pc := 62) (v := (-1)) de_PM_leaf_62 (by decide) ?_
    exact mv_iret (pc := 63) rfl de_PM_leaf_63 h59
  · refine mv_iload (pc := 64) de_PM_leaf_64 6 rfl ?_
    refine mv_iload (pc := 66) de_PM_leaf_66 0 rfl ?_
    refine mv_imul (pc := 68) de_PM_leaf_68 ?_
    refine mv_istore (pc := 69) (lv' := [(5, .int (v5 * s0)), (7, .int s0), (0, va_rf (some v0)), (1, .int v1), (2, .int v2), (3, .int v3), (4, .int v4), (6, .int v6)]) de_PM_leaf_69 (Nat.le_of_ble_eq_true rfl) rfl ?_
    refine mv_iinc (pc := 71) (v := (v6 + 1)) (lv' := [(6, .int (v6 + 1)), (5, .int (v5 * s0)), (7, .int s0), (0, va_rf (some v0)), (1, .int v1), (2, .int v2), (3, .int v3), (4, .int v4)]) de_PM_leaf_71 7 rfl rfl (Nat.le_of_ble_eq_true rfl) rfl ?_
    refine mv_goto (pc := 74) (tgt := 20) de_PM_leaf_74 (by decide) ?_
    exact mv_sub [3, 4, 5, 6, 7, 1, 0] rfl (hk20 Mm56 v0 v1 v2 v3 v4 (v5 * s0) (v6 + 1) h59)
set_option maxHeartbeats 4000000 in
set_option maxRecDepth 100000 in
theorem tb_PM_leaf_20 (l : Launch) (D : va_G) (E : Nat → ClassId) (B : Nat) (sa : (Nat → Nat) × Nat × (Nat → Int32)) (M0 M1 : mv_M) (r : Int32) (N : Nat) : ∀ (n : Nat) (M : mv_M) (v0 : Nat) (v1 : Int32) (v2 : Int32) (v3 : Int32) (v4 : Int32) (v5 : Int32) (v6 : Int32) (hJ : jb_PM_leaf_20 N n M v0 v1 v2 v3 v4 v5 v6 = some (r, M1)), mv_G (xg l D E B sa) kd_PM_leaf M0 M1 (some (.int r)) M 20 [(0, va_rf (some v0)), (1, .int v1), (2, .int v2), (3, .int v3), (4, .int v4), (5, .int v5), (6, .int v6)] [] := by
  intro n
  induction n with
  | zero => intro M v0 v1 v2 v3 v4 v5 v6 hJ; cases hJ
  | succ n ih =>
    intro M v0 v1 v2 v3 v4 v5 v6 hJ
    rw [jb_PM_leaf_20] at hJ
    refine mv_iload (pc := 20) de_PM_leaf_20 6 rfl ?_
    refine mv_iload_n (pc := 22) (i := 1) de_PM_leaf_22 rfl 1 rfl ?_
    refine mv_icmp_ge (pc := 23) (tgt := 77) de_PM_leaf_23 (by decide) hJ (fun hc23 h23 => ?_) (fun hc23 h23 => ?_)
    · refine mv_aload_n (pc := 77) (i := 0) de_PM_leaf_77 rfl 0 rfl ?_
      refine mv_getI (pc := 78) (f := 2) (kc_1 l D E B sa) (Nat.le_of_ble_eq_true rfl) wt_4_82 de_PM_leaf_78 h23 (fun x78 e78 h78 => ?_)
      refine mv_bipush (pc := 81) (v := 50) de_PM_leaf_81 (by decide) ?_
      refine mv_icmp_eq (pc := 83) (tgt := 93) de_PM_leaf_83 (by decide) h78 (fun hc83 h83 => ?_) (fun hc83 h83 => ?_)
      · exact mv_sub [] rfl (tb_PM_leaf_93 l D E B sa M0 M1 r N M h83)
      · refine mv_iload (pc := 86) de_PM_leaf_86 5 rfl ?_
        refine mv_bipush (pc := 88) (v := 64) de_PM_leaf_88 (by decide) ?_
        refine mv_icmp_le (pc := 90) (tgt := 96) de_PM_leaf_90 (by decide) h83 (fun hc90 h90 => ?_) (fun hc90 h90 => ?_)
        · refine mv_aload_n (pc := 96) (i := 0) de_PM_leaf_96 rfl 0 rfl ?_
          refine mv_getR (pc := 97) (f := 3) (kc_1 l D E B sa) (Nat.le_of_ble_eq_true rfl) wt_4_83 de_PM_leaf_97 h90 (fun x97 e97 h97 => ?_)
          refine mv_aload_n (pc := 100) (i := 0) de_PM_leaf_100 rfl 0 rfl ?_
          refine mv_getI (pc := 101) (f := 2) (kc_1 l D E B sa) (Nat.le_of_ble_eq_true rfl) wt_4_82 de_PM_leaf_101 h97 (fun x101 e101 h101 => ?_)
          refine mv_bipush (pc := 104) (v := (-2)) de_PM_leaf_104 (by decide) ?_
          obtain ⟨a106, ha, h106a⟩ := mj_bindE h101
          subst ha
          refine mv_iast (pc := 106) (t := 0) rfl de_PM_leaf_106 h106a (fun Mm106 e106 h106 => ?_)
          refine mv_aload_n (pc := 107) (i := 0) de_PM_leaf_107 rfl 0 rfl ?_
          refine mv_getR (pc := 108) (f := 4) (kc_1 l D E B sa) (Nat.le_of_ble_eq_true rfl) wt_4_84 de_PM_leaf_108 h106 (fun x108 e108 h108 => ?_)
          refine mv_aload_n (pc := 111) (i := 0) de_PM_leaf_111 rfl 0 rfl ?_
          refine mv_getI (pc := 112) (f := 2) (kc_1 l D E B sa) (Nat.le_of_ble_eq_true rfl) wt_4_82 de_PM_leaf_112 h108 (fun x112 e112 h112 => ?_)
          refine mv_bipush (pc := 115) (v := (-2)) de_PM_leaf_115 (by decide) ?_
          obtain ⟨a117, ha, h117a⟩ := mj_bindE h112
          subst ha
          refine mv_iast (pc := 117) (t := 0) rfl de_PM_leaf_117 h117a (fun Mm117 e117 h117 => ?_)
          refine mv_aload_n (pc := 118) (i := 0) de_PM_leaf_118 rfl 0 rfl ?_
          refine mv_getR (pc := 119) (f := 5) (kc_1 l D E B sa) (Nat.le_of_ble_eq_true rfl) wt_4_85 de_PM_leaf_119 h117 (fun x119 e119 h119 => ?_)
          refine mv_aload_n (pc := 122) (i := 0) de_PM_leaf_122 rfl 0 rfl ?_
          refine mv_getI (pc := 123) (f := 2) (kc_1 l D E B sa) (Nat.le_of_ble_eq_true rfl) wt_4_82 de_PM_leaf_123 h119 (fun x123 e123 h123 => ?_)
          refine mv_bipush (pc := 126) (v := (-2)) de_PM_leaf_126 (by decide) ?_
          obtain ⟨a128, ha, h128a⟩ := mj_bindE h123
          subst ha
          refine mv_iast (pc := 128) (t := 0) rfl de_PM_leaf_128 h128a (fun Mm128 e128 h128 => ?_)
          refine mv_aload_n (pc := 129) (i := 0) de_PM_leaf_129 rfl 0 rfl ?_
          refine mv_getR (pc := 130) (f := 6) (kc_1 l D E B sa) (Nat.le_of_ble_eq_true rfl) wt_4_86 de_PM_leaf_130 h128 (fun x130 e130 h130 => ?_)
          refine mv_aload_n (pc := 133) (i := 0) de_PM_leaf_133 rfl 0 rfl ?_
          refine mv_getI (pc := 134) (f := 2) (kc_1 l D E B sa) (Nat.le_of_ble_eq_true rfl) wt_4_82 de_PM_leaf_134 h130 (fun x134 e134 h134 => ?_)
          refine mv_iload_n (pc := 137) (i := 1) de_PM_leaf_137 rfl 1 rfl ?_
          obtain ⟨a138, ha, h138a⟩ := mj_bindE h134
          subst ha
          refine mv_iast (pc := 138) (t := 0) rfl de_PM_leaf_138 h138a (fun Mm138 e138 h138 => ?_)
          refine mv_iconst (pc := 139) (v := 0) de_PM_leaf_139 (by decide) ?_
          refine mv_istore (pc := 140) (lv' := [(6, .int 0), (0, va_rf (some v0)), (1, .int v1), (2, .int v2), (3, .int v3), (4, .int v4), (5, .int v5)]) de_PM_leaf_140 (Nat.le_of_ble_eq_true rfl) rfl ?_
          exact mv_sub [1, 2, 3, 4, 5, 6, 0] rfl (tb_PM_leaf_142 l D E B sa M0 M1 r N N Mm138 v0 v1 v2 v3 v4 v5 0 h138)
        · exact mv_sub [] rfl (tb_PM_leaf_93 l D E B sa M0 M1 r N M h90)
    · refine mv_iload (pc := 26) de_PM_leaf_26 6 rfl ?_
      refine mv_if_ne (pc := 28) (tgt := 35) de_PM_leaf_28 (by decide) h23 (fun hc28 h28 => ?_) (fun hc28 h28 => ?_)
      · refine mv_iload_n (pc := 31) (i := 2) de_PM_leaf_31 rfl 2 rfl ?_
        refine mv_goto (pc := 32) (tgt := 47) de_PM_leaf_32 (by decide) ?_
        exact mv_sub [0, 1, 2, 3, 4, 5, 6] rfl (tb_PM_leaf_47 l D E B sa M0 M1 r N (jb_PM_leaf_20 N n) ih M v0 v1 v2 v3 v4 v5 v6 v2 h28)
      · refine mv_iload (pc := 35) de_PM_leaf_35 6 rfl ?_
        refine mv_iconst (pc := 37) (v := 1) de_PM_leaf_37 (by decide) ?_
        refine mv_icmp_ne (pc := 38) (tgt := 45) de_PM_leaf_38 (by decide) h28 (fun hc38 h38 => ?_) (fun hc38 h38 => ?_)
        · refine mv_iload_n (pc := 41) (i := 3) de_PM_leaf_41 rfl 3 rfl ?_
          refine mv_goto (pc := 42) (tgt := 47) de_PM_leaf_42 (by decide) ?_
          exact mv_sub [0, 1, 2, 3, 4, 5, 6] rfl (tb_PM_leaf_47 l D E B sa M0 M1 r N (jb_PM_leaf_20 N n) ih M v0 v1 v2 v3 v4 v5 v6 v3 h38)
        · refine mv_iload (pc := 45) de_PM_leaf_45 4 rfl ?_
          exact mv_sub [0, 1, 2, 3, 4, 5, 6] rfl (tb_PM_leaf_47 l D E B sa M0 M1 r N (jb_PM_leaf_20 N n) ih M v0 v1 v2 v3 v4 v5 v6 v4 h38)
set_option maxHeartbeats 4000000 in
set_option maxRecDepth 100000 in
theorem tb_PM_leaf_0 (l : Launch) (D : va_G) (E : Nat → ClassId) (B : Nat) (sa : (Nat → Nat) × Nat × (Nat → Int32)) (M0 M1 : mv_M) (r : Int32) (N : Nat) (M : mv_M) (v0 : Nat) (v1 : Int32) (v2 : Int32) (v3 : Int32) (v4 : Int32) (hJ : jb_PM_leaf_0 N M v0 v1 v2 v3 v4 = some (r, M1)) : mv_G (xg l D E B sa) kd_PM_leaf M0 M1 (some (.int r)) M 0 [(0, va_rf (some v0)), (1, .int v1), (2, .int v2), (3, .int v3), (4, .int v4)] [] := by
  unfold jb_PM_leaf_0 at hJ
  refine mv_iload_n (pc := 0) (i := 1) de_PM_leaf_0 rfl 1 rfl ?_
  refine mv_i2l (pc := 1) de_PM_leaf_1 ?_
  refine mv_lconst (pc := 2) (v := 0) de_PM_leaf_2 (by decide) ?_
  refine mv_ldc2 (pc := 3) de_PM_leaf_3 wt_4_196 ?_
  obtain ⟨r6, Mm6, hz6, h6⟩ := mj_callE hJ
  refine mv_callS (pc := 6) (n := 3) (av := [.long v1.toInt64, .long 0, .long 3]) (rest := []) de_PM_leaf_6 (cm_PM_isIn l D E B sa N M v1.toInt64 0 3 _ _ hz6) wt_4_197 wt_4_198 wt_1_8 wt_4_199 ⟨by decide, by decide, by decide +kernel⟩ rfl ⟨Nat.le_of_ble_eq_true rfl, Nat.le_of_ble_eq_true rfl⟩ (Nat.le_of_ble_eq_true rfl) rfl ?_
  refine mv_if_ne (pc := 9) (tgt := 14) de_PM_leaf_9 (by decide) h6 (fun hc9 h9 => ?_) (fun hc9 h9 => ?_)
  · refine mv_iconst (pc := 12) (v := (-1)) de_PM_leaf_12 (by decide) ?_
    exact mv_iret (pc := 13) rfl de_PM_leaf_13 h9
  · refine mv_iconst (pc := 14) (v := 1) de_PM_leaf_14 (by decide) ?_
    refine mv_istore (pc := 15) (lv' := [(5, .int 1), (0, va_rf (some v0)), (1, .int v1), (2, .int v2), (3, .int v3), (4, .int v4)]) de_PM_leaf_15 (Nat.le_of_ble_eq_true rfl) rfl ?_
    refine mv_iconst (pc := 17) (v := 0) de_PM_leaf_17 (by decide) ?_
    refine mv_istore (pc := 18) (lv' := [(6, .int 0), (5, .int 1), (0, va_rf (some v0)), (1, .int v1), (2, .int v2), (3, .int v3), (4, .int v4)]) de_PM_leaf_18 (Nat.le_of_ble_eq_true rfl) rfl ?_
    exact mv_sub [2, 3, 4, 5, 6, 1, 0] rfl (tb_PM_leaf_20 l D E B sa M0 M1 r N N Mm6 v0 v1 v2 v3 v4 1 0 h9)
theorem cm_PM_leaf (l : Launch) (D : va_G) (E : Nat → ClassId) (B : Nat) (sa : (Nat → Nat) × Nat × (Nat → Int32)) (N : Nat) (M : mv_M) (v0 : Nat) (v1 : Int32) (v2 : Int32) (v3 : Int32) (v4 : Int32) (r : Int32) (M1 : mv_M) (hJ : jf_PM_leaf N M v0 v1 v2 v3 v4 = some (r, M1)) : mv_Met (xg l D E B sa) yn_PM_leaf cd_PM_leaf 8 (some .int) 1 25 [va_rf (some v0), .int v1, .int v2, .int v3, .int v4] M (some (.int r)) M1 :=
  mv_enter (by decide) (Nat.le_of_ble_eq_true rfl) (mv_sub (lv := [(0, va_rf (some v0)), (1, .int v1), (2, .int v2), (3, .int v3), (4, .int v4)]) [0, 1, 2, 3, 4] rfl (tb_PM_leaf_0 l D E B sa M M1 r N M v0 v1 v2 v3 v4 hJ))
/-! ===== PlainLearnerModel.isLeaf(I)Z ===== -/
abbrev kd_PM_isLeaf : mv_Kd := (cd_PM_isLeaf, 2, "PlainLearnerModel", "isLeaf", (some .boolean), 2, 46)
theorem de_PM_isLeaf_0 : decode cd_PM_isLeaf 0 = .ok (.aload_n 0, 1) := by decide +kernel
theorem de_PM_isLeaf_1 : decode cd_PM_isLeaf 1 = .ok (.iload_n 1, 1) := by decide +kernel
theorem de_PM_isLeaf_2 : decode cd_PM_isLeaf 2 = .ok (.invokevirtual 107, 3) := by decide +kernel
theorem de_PM_isLeaf_5 : decode cd_PM_isLeaf 5 = .ok (.ifCond .eq 18, 3) := by decide +kernel
theorem de_PM_isLeaf_8 : decode cd_PM_isLeaf 8 = .ok (.aload_n 0, 1) := by decide +kernel
theorem de_PM_isLeaf_9 : decode cd_PM_isLeaf 9 = .ok (.getfield 7, 3) := by decide +kernel
theorem de_PM_isLeaf_12 : decode cd_PM_isLeaf 12 = .ok (.iload_n 1, 1) := by decide +kernel
theorem de_PM_isLeaf_13 : decode cd_PM_isLeaf 13 = .ok (.iaload, 1) := by decide +kernel
theorem de_PM_isLeaf_14 : decode cd_PM_isLeaf 14 = .ok (.bipush (-2), 2) := by decide +kernel
theorem de_PM_isLeaf_16 : decode cd_PM_isLeaf 16 = .ok (.if_icmp .ne 7, 3) := by decide +kernel
theorem de_PM_isLeaf_19 : decode cd_PM_isLeaf 19 = .ok (.iconst 1, 1) := by decide +kernel
theorem de_PM_isLeaf_20 : decode cd_PM_isLeaf 20 = .ok (.goto 4, 3) := by decide +kernel
theorem de_PM_isLeaf_23 : decode cd_PM_isLeaf 23 = .ok (.iconst 0, 1) := by decide +kernel
theorem de_PM_isLeaf_24 : decode cd_PM_isLeaf 24 = .ok (.ireturn, 1) := by decide +kernel
def jb_PM_isLeaf_24 (N : Nat) (M : mv_M) (s0 : Int32) : Option (Int32 × mv_M) :=
  if s0 = 0 ∨ s0 = 1 then some (s0, M) else none
def jb_PM_isLeaf_23 (N : Nat) (M : mv_M) : Option (Int32 × mv_M) :=
  jb_PM_isLeaf_24 N M 0
def jb_PM_isLeaf_0 (N : Nat) (M : mv_M) (v0 : Nat) (v1 : Int32) : Option (Int32 × mv_M) :=
  mj_ob M v0 1 <|
  mj_call (jf_PM_isNode N M v0 v1) fun r2 Mm2 =>
  if r2 = 0 then (jb_PM_isLeaf_23 N Mm2) else
  Option.bind (mj_getR Mm2 v0 1 3) fun x9 =>
  Option.bind x9 fun a13 =>
  Option.bind (mj_ild Mm2 a13 0 v1) fun x13 =>
  if x13 = (-2) then (jb_PM_isLeaf_24 N Mm2 1) else
  jb_PM_isLeaf_23 N Mm2
def jf_PM_isLeaf (N : Nat) (M : mv_M) (v0 : Nat) (v1 : Int32) : Option (Int32 × mv_M) := jb_PM_isLeaf_0 N M v0 v1
set_option maxHeartbeats 4000000 in
set_option maxRecDepth 100000 in
theorem tb_PM_isLeaf_24 (l : Launch) (D : va_G) (E : Nat → ClassId) (B : Nat) (sa : (Nat → Nat) × Nat × (Nat → Int32)) (M0 M1 : mv_M) (r : Int32) (N : Nat) (M : mv_M) (s0 : Int32) (hJ : jb_PM_isLeaf_24 N M s0 = some (r, M1)) : mv_G (xg l D E B sa) kd_PM_isLeaf M0 M1 (some (.int r)) M 24 [] [.int s0] := by
  unfold jb_PM_isLeaf_24 at hJ
  exact mv_zret (pc := 24) rfl de_PM_isLeaf_24 hJ
set_option maxHeartbeats 4000000 in
set_option maxRecDepth 100000 in
theorem tb_PM_isLeaf_23 (l : Launch) (D : va_G) (E : Nat → ClassId) (B : Nat) (sa : (Nat → Nat) × Nat × (Nat → Int32)) (M0 M1 : mv_M) (r : Int32) (N : Nat) (M : mv_M) (hJ : jb_PM_isLeaf_23 N M = some (r, M1)) : mv_G (xg l D E B sa) kd_PM_isLeaf M0 M1 (some (.int r)) M 23 [] [] := by
  unfold jb_PM_isLeaf_23 at hJ
  refine mv_iconst (pc := 23) (v := 0) de_PM_isLeaf_23 (by decide) ?_
  exact mv_sub [] rfl (tb_PM_isLeaf_24 l D E B sa M0 M1 r N M 0 hJ)
set_option maxHeartbeats 4000000 in
set_option maxRecDepth 100000 in
theorem tb_PM_isLeaf_0 (l : Launch) (D : va_G) (E : Nat → ClassId) (B : Nat) (sa : (Nat → Nat) × Nat × (Nat → Int32)) (M0 M1 : mv_M) (r : Int32) (N : Nat) (M : mv_M) (v0 : Nat) (v1 : Int32) (hJ : jb_PM_isLeaf_0 N M v0 v1 = some (r, M1)) : mv_G (xg l D E B sa) kd_PM_isLeaf M0 M1 (some (.int r)) M 0 [(0, va_rf (some v0)), (1, .int v1)] [] := by
  unfold jb_PM_isLeaf_0 at hJ
  refine mv_aload_n (pc := 0) (i := 0) de_PM_isLeaf_0 rfl 0 rfl ?_
  refine mv_iload_n (pc := 1) (i := 1) de_PM_isLeaf_1 rfl 1 rfl ?_
  obtain ⟨hi2, h2o⟩ := mj_obE hJ
  obtain ⟨r2, Mm2, hz2, h2⟩ := mj_callE h2o
  refine mv_callV (pc := 2) (n := 1) (av := [.int v1]) (rest := []) de_PM_isLeaf_2 (kc_1 l D E B sa) hi2 (cm_PM_isNode l D E B sa N M v0 v1 _ _ hz2) wt_4_209 wt_4_211 wp_27 wt_1_8 wt_4_212 ⟨by decide, by decide, by decide +kernel⟩ rfl ⟨Nat.le_of_ble_eq_true rfl, Nat.le_of_ble_eq_true rfl⟩ (Nat.le_of_ble_eq_true rfl) rfl ?_
  refine mv_if_eq (pc := 5) (tgt := 23) de_PM_isLeaf_5 (by decide) h2 (fun hc5 h5 => ?_) (fun hc5 h5 => ?_)
  · exact mv_sub [] rfl (tb_PM_isLeaf_23 l D E B sa M0 M1 r N Mm2 h5)
  · refine mv_aload_n (pc := 8) (i := 0) de_PM_isLeaf_8 rfl 0 rfl ?_
    refine mv_getR (pc := 9) (f := 3) (kc_1 l D E B sa) (Nat.le_of_ble_eq_true rfl) wt_4_83 de_PM_isLeaf_9 h5 (fun x9 e9 h9 => ?_)
    refine mv_iload_n (pc := 12) (i := 1) de_PM_isLeaf_12 rfl 1 rfl ?_
    obtain ⟨a13, ha, h13a⟩ := mj_bindE h9
    subst ha
    refine mv_iald (pc := 13) (t := 0) rfl de_PM_isLeaf_13 h13a (fun x13 e13 h13 => ?_)
    refine mv_bipush (pc := 14) (v := (-2)) de_PM_isLeaf_14 (by decide) ?_
    refine mv_icmp_ne (pc := 16) (tgt := 23) de_PM_isLeaf_16 (by decide) h13 (fun hc16 h16 => ?_) (fun hc16 h16 => ?_)
    · refine mv_iconst (pc := 19) (v := 1) de_PM_isLeaf_19 (by decide) ?_
      refine mv_goto (pc := 20) (tgt := 24) de_PM_isLeaf_20 (by decide) ?_
      exact mv_sub [] rfl (tb_PM_isLeaf_24 l D E B sa M0 M1 r N Mm2 1 h16)
    · exact mv_sub [] rfl (tb_PM_isLeaf_23 l D E B sa M0 M1 r N Mm2 h16)
theorem cm_PM_isLeaf (l : Launch) (D : va_G) (E : Nat → ClassId) (B : Nat) (sa : (Nat → Nat) × Nat × (Nat → Int32)) (N : Nat) (M : mv_M) (v0 : Nat) (v1 : Int32) (r : Int32) (M1 : mv_M) (hJ : jf_PM_isLeaf N M v0 v1 = some (r, M1)) : mv_Met (xg l D E B sa) yn_PM_isLeaf cd_PM_isLeaf 2 (some .boolean) 2 46 [va_rf (some v0), .int v1] M (some (.int r)) M1 :=
  mv_enter (by decide) (Nat.le_of_ble_eq_true rfl) (mv_sub (lv := [(0, va_rf (some v0)), (1, .int v1)]) [0, 1] rfl (tb_PM_isLeaf_0 l D E B sa M M1 r N M v0 v1 hJ))
/-! ===== PlainLearnerModel.tell(IIII)I ===== -/
abbrev kd_PM_tell : mv_Kd := (cd_PM_tell, 5, "PlainLearnerModel", "tell", (some .int), 3, 67)
theorem de_PM_tell_0 : decode cd_PM_tell 0 = .ok (.aload_n 0, 1) := by decide +kernel
theorem de_PM_tell_1 : decode cd_PM_tell 1 = .ok (.iload_n 1, 1) := by decide +kernel
theorem de_PM_tell_2 : decode cd_PM_tell 2 = .ok (.invokevirtual 111, 3) := by decide +kernel
theorem de_PM_tell_5 : decode cd_PM_tell 5 = .ok (.ifCond .eq 20, 3) := by decide +kernel
theorem de_PM_tell_8 : decode cd_PM_tell 8 = .ok (.iload_n 2, 1) := by decide +kernel
theorem de_PM_tell_9 : decode cd_PM_tell 9 = .ok (.i2l, 1) := by decide +kernel
theorem de_PM_tell_10 : decode cd_PM_tell 10 = .ok (.lconst 0, 1) := by decide +kernel
theorem de_PM_tell_11 : decode cd_PM_tell 11 = .ok (.aload_n 0, 1) := by decide +kernel
theorem de_PM_tell_12 : decode cd_PM_tell 12 = .ok (.iload_n 1, 1) := by decide +kernel
theorem de_PM_tell_13 : decode cd_PM_tell 13 = .ok (.invokevirtual 114, 3) := by decide +kernel
theorem de_PM_tell_16 : decode cd_PM_tell 16 = .ok (.iconst 1, 1) := by decide +kernel
theorem de_PM_tell_17 : decode cd_PM_tell 17 = .ok (.isub, 1) := by decide +kernel
theorem de_PM_tell_18 : decode cd_PM_tell 18 = .ok (.i2l, 1) := by decide +kernel
theorem de_PM_tell_19 : decode cd_PM_tell 19 = .ok (.invokestatic 99, 3) := by decide +kernel
theorem de_PM_tell_22 : decode cd_PM_tell 22 = .ok (.ifCond .ne 5, 3) := by decide +kernel
theorem de_PM_tell_25 : decode cd_PM_tell 25 = .ok (.iconst (-1), 1) := by decide +kernel
theorem de_PM_tell_26 : decode cd_PM_tell 26 = .ok (.ireturn, 1) := by decide +kernel
theorem de_PM_tell_27 : decode cd_PM_tell 27 = .ok (.aload_n 0, 1) := by decide +kernel
theorem de_PM_tell_28 : decode cd_PM_tell 28 = .ok (.iload_n 3, 1) := by decide +kernel
theorem de_PM_tell_29 : decode cd_PM_tell 29 = .ok (.i2l, 1) := by decide +kernel
theorem de_PM_tell_30 : decode cd_PM_tell 30 = .ok (.iload 4, 2) := by decide +kernel
theorem de_PM_tell_32 : decode cd_PM_tell 32 = .ok (.i2l, 1) := by decide +kernel
theorem de_PM_tell_33 : decode cd_PM_tell 33 = .ok (.invokevirtual 91, 3) := by decide +kernel
theorem de_PM_tell_36 : decode cd_PM_tell 36 = .ok (.aload_n 0, 1) := by decide +kernel
theorem de_PM_tell_37 : decode cd_PM_tell 37 = .ok (.getfield 29, 3) := by decide +kernel
theorem de_PM_tell_40 : decode cd_PM_tell 40 = .ok (.bipush 64, 2) := by decide +kernel
theorem de_PM_tell_42 : decode cd_PM_tell 42 = .ok (.iload_n 1, 1) := by decide +kernel
theorem de_PM_tell_43 : decode cd_PM_tell 43 = .ok (.imul, 1) := by decide +kernel
theorem de_PM_tell_44 : decode cd_PM_tell 44 = .ok (.iload_n 2, 1) := by decide +kernel
theorem de_PM_tell_45 : decode cd_PM_tell 45 = .ok (.iadd, 1) := by decide +kernel
theorem de_PM_tell_46 : decode cd_PM_tell 46 = .ok (.aload_n 0, 1) := by decide +kernel
theorem de_PM_tell_47 : decode cd_PM_tell 47 = .ok (.getfield 81, 3) := by decide +kernel
theorem de_PM_tell_50 : decode cd_PM_tell 50 = .ok (.lastore, 1) := by decide +kernel
theorem de_PM_tell_51 : decode cd_PM_tell 51 = .ok (.aload_n 0, 1) := by decide +kernel
theorem de_PM_tell_52 : decode cd_PM_tell 52 = .ok (.getfield 33, 3) := by decide +kernel
theorem de_PM_tell_55 : decode cd_PM_tell 55 = .ok (.bipush 64, 2) := by decide +kernel
theorem de_PM_tell_57 : decode cd_PM_tell 57 = .ok (.iload_n 1, 1) := by decide +kernel
theorem de_PM_tell_58 : decode cd_PM_tell 58 = .ok (.imul, 1) := by decide +kernel
theorem de_PM_tell_59 : decode cd_PM_tell 59 = .ok (.iload_n 2, 1) := by decide +kernel
theorem de_PM_tell_60 : decode cd_PM_tell 60 = .ok (.iadd, 1) := by decide +kernel
theorem de_PM_tell_61 : decode cd_PM_tell 61 = .ok (.aload_n 0, 1) := by decide +kernel
theorem de_PM_tell_62 : decode cd_PM_tell 62 = .ok (.getfield 84, 3) := by decide +kernel
theorem de_PM_tell_65 : decode cd_PM_tell 65 = .ok (.lastore, 1) := by decide +kernel
theorem de_PM_tell_66 : decode cd_PM_tell 66 = .ok (.aload_n 0, 1) := by decide +kernel
theorem de_PM_tell_67 : decode cd_PM_tell 67 = .ok (.getfield 84, 3) := by decide +kernel
theorem de_PM_tell_70 : decode cd_PM_tell 70 = .ok (.lconst 0, 1) := by decide +kernel
theorem de_PM_tell_71 : decode cd_PM_tell 71 = .ok (.lcmp, 1) := by decide +kernel
theorem de_PM_tell_72 : decode cd_PM_tell 72 = .ok (.ifCond .ne 7, 3) := by decide +kernel
theorem de_PM_tell_75 : decode cd_PM_tell 75 = .ok (.iconst 1, 1) := by decide +kernel
theorem de_PM_tell_76 : decode cd_PM_tell 76 = .ok (.goto 4, 3) := by decide +kernel
theorem de_PM_tell_79 : decode cd_PM_tell 79 = .ok (.iconst 0, 1) := by decide +kernel
theorem de_PM_tell_80 : decode cd_PM_tell 80 = .ok (.ireturn, 1) := by decide +kernel
def jb_PM_tell_25 (N : Nat) (M : mv_M) : Option (Int32 × mv_M) :=
  some ((-1), M)
def jb_PM_tell_80 (N : Nat) (M : mv_M) (s0 : Int32) : Option (Int32 × mv_M) :=
  some (s0, M)
def jb_PM_tell_0 (N : Nat) (M : mv_M) (v0 : Nat) (v1 : Int32) (v2 : Int32) (v3 : Int32) (v4 : Int32) : Option (Int32 × mv_M) :=
  mj_ob M v0 1 <|
  mj_call (jf_PM_isLeaf N M v0 v1) fun r2 Mm2 =>
  if r2 = 0 then (jb_PM_tell_25 N Mm2) else
  mj_ob Mm2 v0 1 <|
  mj_call (jf_PM_cells N Mm2 v0 v1) fun r13 Mm13 =>
  mj_call (jf_PM_isIn N Mm13 v2.toInt64 0 ((r13 - 1).toInt64)) fun r19 Mm19 =>
  if r19 = 0 then (jb_PM_tell_25 N Mm19) else
  mj_ob Mm19 v0 1 <|
  mj_call (jf_PM_least N Mm19 v0 v3.toInt64 v4.toInt64) fun r33 Mm33 =>
  Option.bind (mj_getR Mm33 v0 1 9) fun x37 =>
  Option.bind (mj_getL Mm33 v0 1 0) fun x47 =>
  Option.bind x37 fun a50 =>
  Option.bind (mj_lst Mm33 a50 1 ((64 * v1) + v2) x47) fun Mm50 =>
  Option.bind (mj_getR Mm50 v0 1 10) fun x52 =>
  Option.bind (mj_getL Mm50 v0 1 1) fun x62 =>
  Option.bind x52 fun a65 =>
  Option.bind (mj_lst Mm50 a65 1 ((64 * v1) + v2) x62) fun Mm65 =>
  Option.bind (mj_getL Mm65 v0 1 1) fun x67 =>
  if (lg_cmp x67 0) = 0 then (jb_PM_tell_80 N Mm65 1) else
  jb_PM_tell_80 N Mm65 0
def jf_PM_tell (N : Nat) (M : mv_M) (v0 : Nat) (v1 : Int32) (v2 : Int32) (v3 : Int32) (v4 : Int32) : Option (Int32 × mv_M) := jb_PM_tell_0 N M v0 v1 v2 v3 v4
set_option maxHeartbeats 4000000 in
set_option maxRecDepth 100000 in
theorem tb_PM_tell_25 (l : Launch) (D : va_G) (E : Nat → ClassId) (B : Nat) (sa : (Nat → Nat) × Nat × (Nat → Int32)) (M0 M1 : mv_M) (r : Int32) (N : Nat) (M : mv_M) (hJ : jb_PM_tell_25 N M = some (r, M1)) : mv_G (xg l D E B sa) kd_PM_tell M0 M1 (some (.int r)) M 25 [] [] := by
  unfold jb_PM_tell_25 at hJ
  refine mv_iconst (pc := 25) (v := (-1)) de_PM_tell_25 (by decide) ?_
  exact mv_iret (pc := 26) rfl de_PM_tell_26 hJ
set_option maxHeartbeats 4000000 in
set_option maxRecDepth 100000 in
theorem tb_PM_tell_80 (l : Launch) (D : va_G) (E : Nat → ClassId) (B : Nat) (sa : (Nat → Nat) × Nat × (Nat → Int32)) (M0 M1 : mv_M) (r : Int32) (N : Nat) (M : mv_M) (s0 : Int32) (hJ : jb_PM_tell_80 N M s0 = some (r, M1)) : mv_G (xg l D E B sa) kd_PM_tell M0 M1 (some (.int r)) M 80 [] [.int s0] := by
  unfold jb_PM_tell_80 at hJ
  exact mv_iret (pc := 80) rfl de_PM_tell_80 hJ
set_option maxHeartbeats 4000000 in
set_option maxRecDepth 100000 in
theorem tb_PM_tell_0 (l : Launch) (D : va_G) (E : Nat → ClassId) (B : Nat) (sa : (Nat → Nat) × Nat × (Nat → Int32)) (M0 M1 : mv_M) (r : Int32) (N : Nat) (M : mv_M) (v0 : Nat) (v1 : Int32) (v2 : Int32) (v3 : Int32) (v4 : Int32) (hJ : jb_PM_tell_0 N M v0 v1 v2 v3 v4 = some (r, M1)) : mv_G (xg l D E B sa) kd_PM_tell M0 M1 (some (.int r)) M 0 [(0, va_rf (some v0)), (1, .int v1), (2, .int v2), (3, .int v3), (4, .int v4)] [] := by
  unfold jb_PM_tell_0 at hJ
  refine mv_aload_n (pc := 0) (i := 0) de_PM_tell_0 rfl 0 rfl ?_
  refine mv_iload_n (pc := 1) (i := 1) de_PM_tell_1 rfl 1 rfl ?_
  obtain ⟨hi2, h2o⟩ := mj_obE hJ
  obtain ⟨r2, Mm2, hz2, h2⟩ := mj_callE h2o
  refine mv_callV (pc := 2) (n := 1) (av := [.int v1]) (rest := []) de_PM_tell_2 (kc_1 l D E B sa) hi2 (cm_PM_isLeaf l D E B sa N M v0 v1 _ _ hz2) wt_4_205 wt_4_207 wp_26 wt_1_8 wt_4_208 ⟨by decide, by decide, by decide +kernel⟩ rfl ⟨Nat.le_of_ble_eq_true rfl, Nat.le_of_ble_eq_true rfl⟩ (Nat.le_of_ble_eq_true rfl) rfl ?_
  refine mv_if_eq (pc := 5) (tgt := 25) de_PM_tell_5 (by decide) h2 (fun hc5 h5 => ?_) (fun hc5 h5 => ?_)
  · exact mv_sub [] rfl (tb_PM_tell_25 l D E B sa M0 M1 r N Mm2 h5)
  · refine mv_iload_n (pc := 8) (i := 2) de_PM_tell_8 rfl 2 rfl ?_
    refine mv_i2l (pc := 9) de_PM_tell_9 ?_
    refine mv_lconst (pc := 10) (v := 0) de_PM_tell_10 (by decide) ?_
    refine mv_aload_n (pc := 11) (i := 0) de_PM_tell_11 rfl 0 rfl ?_
    refine mv_iload_n (pc := 12) (i := 1) de_PM_tell_12 rfl 1 rfl ?_
    obtain ⟨hi13, h13o⟩ := mj_obE h5
    obtain ⟨r13, Mm13, hz13, h13⟩ := mj_callE h13o
    refine mv_callV (pc := 13) (n := 1) (av := [.int v1]) (rest := [.long 0, .long v2.toInt64]) de_PM_tell_13 (kc_1 l D E B sa) hi13 (cm_PM_cells l D E B sa N Mm2 v0 v1 _ _ hz13) wt_4_213 wt_4_215 wp_28 wt_1_8 wt_4_216 ⟨by decide, by decide, by decide +kernel⟩ rfl ⟨Nat.le_of_ble_eq_true rfl, Nat.le_of_ble_eq_true rfl⟩ (Nat.le_of_ble_eq_true rfl) rfl ?_
    refine mv_iconst (pc := 16) (v := 1) de_PM_tell_16 (by decide) ?_
    refine mv_isub (pc := 17) de_PM_tell_17 ?_
    refine mv_i2l (pc := 18) de_PM_tell_18 ?_
    obtain ⟨r19, Mm19, hz19, h19⟩ := mj_callE h13
    refine mv_callS (pc := 19) (n := 3) (av := [.long v2.toInt64, .long 0, .long (r13 - 1).toInt64]) (rest := []) de_PM_tell_19 (cm_PM_isIn l D E B sa N Mm13 v2.toInt64 0 ((r13 - 1).toInt64) _ _ hz19) wt_4_197 wt_4_198 wt_1_8 wt_4_199 ⟨by decide, by decide, by decide +kernel⟩ rfl ⟨Nat.le_of_ble_eq_true rfl, Nat.le_of_ble_eq_true rfl⟩ (Nat.le_of_ble_eq_true rfl) rfl ?_
    refine mv_if_ne (pc := 22) (tgt := 27) de_PM_tell_22 (by decide) h19 (fun hc22 h22 => ?_) (fun hc22 h22 => ?_)
    · exact mv_sub [] rfl (tb_PM_tell_25 l D E B sa M0 M1 r N Mm19 h22)
    · refine mv_aload_n (pc := 27) (i := 0) de_PM_tell_27 rfl 0 rfl ?_
      refine mv_iload_n (pc := 28) (i := 3) de_PM_tell_28 rfl 3 rfl ?_
      refine mv_i2l (pc := 29) de_PM_tell_29 ?_
      refine mv_iload (pc := 30) de_PM_tell_30 4 rfl ?_
      refine mv_i2l (pc := 32) de_PM_tell_32 ?_
      obtain ⟨hi33, h33o⟩ := mj_obE h22
      obtain ⟨r33, Mm33, hz33, h33⟩ := mj_callE h33o
      refine mv_callV (pc := 33) (n := 2) (av := [.long v3.toInt64, .long v4.toInt64]) (rest := []) de_PM_tell_33 (kc_1 l D E B sa) hi33 (cm_PM_least l D E B sa N Mm19 v0 v3.toInt64 v4.toInt64 _ _ hz33) wt_4_217 wt_4_219 wp_29 wt_1_8 wt_4_220 ⟨by decide, by decide, by decide +kernel⟩ rfl ⟨Nat.le_of_ble_eq_true rfl, Nat.le_of_ble_eq_true rfl⟩ (Nat.le_of_ble_eq_true rfl) rfl ?_
      refine mv_aload_n (pc := 36) (i := 0) de_PM_tell_36 rfl 0 rfl ?_
      refine mv_getR (pc := 37) (f := 9) (kc_1 l D E B sa) (Nat.le_of_ble_eq_true rfl) wt_4_89 de_PM_tell_37 h33 (fun x37 e37 h37 => ?_)
      refine mv_bipush (pc := 40) (v := 64) de_PM_tell_40 (by decide) ?_
      refine mv_iload_n (pc := 42) (i := 1) de_PM_tell_42 rfl 1 rfl ?_
      refine mv_imul (pc := 43) de_PM_tell_43 ?_
      refine mv_iload_n (pc := 44) (i := 2) de_PM_tell_44 rfl 2 rfl ?_
      refine mv_iadd (pc := 45) de_PM_tell_45 ?_
      refine mv_aload_n (pc := 46) (i := 0) de_PM_tell_46 rfl 0 rfl ?_
      refine mv_getL (pc := 47) (f := 0) (kc_1 l D E B sa) (Nat.le_of_ble_eq_true rfl) wt_4_80 de_PM_tell_47 h37 (fun x47 e47 h47 => ?_)
      obtain ⟨a50, ha, h50a⟩ := mj_bindE h47
      subst ha
      refine mv_last (pc := 50) (t := 1) rfl de_PM_tell_50 h50a (fun Mm50 e50 h50 => ?_)
      refine mv_aload_n (pc := 51) (i := 0) de_PM_tell_51 rfl 0 rfl ?_
      refine mv_getR (pc := 52) (f := 10) (kc_1 l D E B sa) (Nat.le_of_ble_eq_true rfl) wt_4_90 de_PM_tell_52 h50 (fun x52 e52 h52 => ?_)
      refine mv_bipush (pc := 55) (v := 64) de_PM_tell_55 (by decide) ?_
      refine mv_iload_n (pc := 57) (i := 1) de_PM_tell_57 rfl 1 rfl ?_
      refine mv_imul (pc := 58) de_PM_tell_58 ?_
      refine mv_iload_n (pc := 59) (i := 2) de_PM_tell_59 rfl 2 rfl ?_
      refine mv_iadd (pc := 60) de_PM_tell_60 ?_
      refine mv_aload_n (pc := 61) (i := 0) de_PM_tell_61 rfl 0 rfl ?_
      refine mv_getL (pc := 62) (f := 1) (kc_1 l D E B sa) (Nat.le_of_ble_eq_true rfl) wt_4_81 de_PM_tell_62 h52 (fun x62 e62 h62 => ?_)
      obtain ⟨a65, ha, h65a⟩ := mj_bindE h62
      subst ha
      refine mv_last (pc := 65) (t := 1) rfl de_PM_tell_65 h65a (fun Mm65 e65 h65 => ?_)
      refine mv_aload_n (pc := 66) (i := 0) de_PM_tell_66 rfl 0 rfl ?_
      refine mv_getL (pc := 67) (f := 1) (kc_1 l D E B sa) (Nat.le_of_ble_eq_true rfl) wt_4_81 de_PM_tell_67 h65 (fun x67 e67 h67 => ?_)
      refine mv_lconst (pc := 70) (v := 0) de_PM_tell_70 (by decide) ?_
      refine mv_lcmp (pc := 71) de_PM_tell_71 ?_
      refine mv_if_ne (pc := 72) (tgt := 79) de_PM_tell_72 (by decide) h67 (fun hc72 h72 => ?_) (fun hc72 h72 => ?_)
      · refine mv_iconst (pc := 75) (v := 1) de_PM_tell_75 (by decide) ?_
        refine mv_goto (pc := 76) (tgt := 80) de_PM_tell_76 (by decide) ?_
        exact mv_sub [] rfl (tb_PM_tell_80 l D E B sa M0 M1 r N Mm65 1 h72)
      · refine mv_iconst (pc := 79) (v := 0) de_PM_tell_79 (by decide) ?_
        exact mv_sub [] rfl (tb_PM_tell_80 l D E B sa M0 M1 r N Mm65 0 h72)
theorem cm_PM_tell (l : Launch) (D : va_G) (E : Nat → ClassId) (B : Nat) (sa : (Nat → Nat) × Nat × (Nat → Int32)) (N : Nat) (M : mv_M) (v0 : Nat) (v1 : Int32) (v2 : Int32) (v3 : Int32) (v4 : Int32) (r : Int32) (M1 : mv_M) (hJ : jf_PM_tell N M v0 v1 v2 v3 v4 = some (r, M1)) : mv_Met (xg l D E B sa) yn_PM_tell cd_PM_tell 5 (some .int) 3 67 [va_rf (some v0), .int v1, .int v2, .int v3, .int v4] M (some (.int r)) M1 :=
  mv_enter (by decide) (Nat.le_of_ble_eq_true rfl) (mv_sub (lv := [(0, va_rf (some v0)), (1, .int v1), (2, .int v2), (3, .int v3), (4, .int v4)]) [0, 1, 2, 3, 4] rfl (tb_PM_tell_0 l D E B sa M M1 r N M v0 v1 v2 v3 v4 hJ))
