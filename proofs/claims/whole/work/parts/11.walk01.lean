/-! ===== PlainLearner$Node.hasCell(I)Z ===== -/
abbrev kd_No_hasCell : mv_Kd := (cd_No_hasCell, 2, "PlainLearner$Node", "hasCell", (some .boolean), 0, 0)
theorem de_No_hasCell_0 : decode cd_No_hasCell 0 = .ok (.iload_n 1, 1) := by decide +kernel
theorem de_No_hasCell_1 : decode cd_No_hasCell 1 = .ok (.ifCond .lt 18, 3) := by decide +kernel
theorem de_No_hasCell_4 : decode cd_No_hasCell 4 = .ok (.iload_n 1, 1) := by decide +kernel
theorem de_No_hasCell_5 : decode cd_No_hasCell 5 = .ok (.aload_n 0, 1) := by decide +kernel
theorem de_No_hasCell_6 : decode cd_No_hasCell 6 = .ok (.getfield 9, 3) := by decide +kernel
theorem de_No_hasCell_9 : decode cd_No_hasCell 9 = .ok (.getfield 42, 3) := by decide +kernel
theorem de_No_hasCell_12 : decode cd_No_hasCell 12 = .ok (.if_icmp .ge 7, 3) := by decide +kernel
theorem de_No_hasCell_15 : decode cd_No_hasCell 15 = .ok (.iconst 1, 1) := by decide +kernel
theorem de_No_hasCell_16 : decode cd_No_hasCell 16 = .ok (.goto 4, 3) := by decide +kernel
theorem de_No_hasCell_19 : decode cd_No_hasCell 19 = .ok (.iconst 0, 1) := by decide +kernel
theorem de_No_hasCell_20 : decode cd_No_hasCell 20 = .ok (.ireturn, 1) := by decide +kernel
def jb_No_hasCell_20 (N : Nat) (M : mv_M) (s0 : Int32) : Option (Int32 × mv_M) :=
  if s0 = 0 ∨ s0 = 1 then some (s0, M) else none
def jb_No_hasCell_19 (N : Nat) (M : mv_M) : Option (Int32 × mv_M) :=
  jb_No_hasCell_20 N M 0
def jb_No_hasCell_0 (N : Nat) (M : mv_M) (v0 : Nat) (v1 : Int32) : Option (Int32 × mv_M) :=
  if v1 < 0 then (jb_No_hasCell_19 N M) else
  Option.bind (mj_getR M v0 2 0) fun x6 =>
  Option.bind x6 fun a9 =>
  Option.bind (mj_getI M a9 5 4) fun x9 =>
  if x9 ≤ v1 then (jb_No_hasCell_19 N M) else
  jb_No_hasCell_20 N M 1
def jf_No_hasCell (N : Nat) (M : mv_M) (v0 : Nat) (v1 : Int32) : Option (Int32 × mv_M) := jb_No_hasCell_0 N M v0 v1
set_option maxHeartbeats 4000000 in
set_option maxRecDepth 100000 in
theorem tb_No_hasCell_20 (l : Launch) (D : va_G) (E : Nat → ClassId) (B : Nat) (sa : (Nat → Nat) × Nat × (Nat → Int32)) (M0 M1 : mv_M) (r : Int32) (N : Nat) (M : mv_M) (s0 : Int32) (hJ : jb_No_hasCell_20 N M s0 = some (r, M1)) : mv_G (xg l D E B sa) kd_No_hasCell M0 M1 (some (.int r)) M 20 [] [.int s0] := by
  unfold jb_No_hasCell_20 at hJ
  exact mv_zret (pc := 20) rfl de_No_hasCell_20 hJ
set_option maxHeartbeats 4000000 in
set_option maxRecDepth 100000 in
theorem tb_No_hasCell_19 (l : Launch) (D : va_G) (E : Nat → ClassId) (B : Nat) (sa : (Nat → Nat) × Nat × (Nat → Int32)) (M0 M1 : mv_M) (r : Int32) (N : Nat) (M : mv_M) (hJ : jb_No_hasCell_19 N M = some (r, M1)) : mv_G (xg l D E B sa) kd_No_hasCell M0 M1 (some (.int r)) M 19 [] [] := by
  unfold jb_No_hasCell_19 at hJ
  refine mv_iconst (pc := 19) (v := 0) de_No_hasCell_19 (by decide) ?_
  exact mv_sub [] rfl (tb_No_hasCell_20 l D E B sa M0 M1 r N M 0 hJ)
set_option maxHeartbeats 4000000 in
set_option maxRecDepth 100000 in
theorem tb_No_hasCell_0 (l : Launch) (D : va_G) (E : Nat → ClassId) (B : Nat) (sa : (Nat → Nat) × Nat × (Nat → Int32)) (M0 M1 : mv_M) (r : Int32) (N : Nat) (M : mv_M) (v0 : Nat) (v1 : Int32) (hJ : jb_No_hasCell_0 N M v0 v1 = some (r, M1)) : mv_G (xg l D E B sa) kd_No_hasCell M0 M1 (some (.int r)) M 0 [(0, va_rf (some v0)), (1, .int v1)] [] := by
  unfold jb_No_hasCell_0 at hJ
  refine mv_iload_n (pc := 0) (i := 1) de_No_hasCell_0 rfl 1 rfl ?_
  refine mv_if_lt (pc := 1) (tgt := 19) de_No_hasCell_1 (by decide) hJ (fun hc1 h1 => ?_) (fun hc1 h1 => ?_)
  · exact mv_sub [] rfl (tb_No_hasCell_19 l D E B sa M0 M1 r N M h1)
  · refine mv_iload_n (pc := 4) (i := 1) de_No_hasCell_4 rfl 1 rfl ?_
    refine mv_aload_n (pc := 5) (i := 0) de_No_hasCell_5 rfl 0 rfl ?_
    refine mv_getR (pc := 6) (f := 0) (kc_2 l D E B sa) (Nat.le_of_ble_eq_true rfl) wt_1_220 de_No_hasCell_6 h1 (fun x6 e6 h6 => ?_)
    obtain ⟨a9, ha, h9a⟩ := mj_bindE h6
    subst ha
    refine mv_getI (pc := 9) (f := 4) (kc_5 l D E B sa) (Nat.le_of_ble_eq_true rfl) wt_1_191 de_No_hasCell_9 h9a (fun x9 e9 h9 => ?_)
    refine mv_icmp_ge (pc := 12) (tgt := 19) de_No_hasCell_12 (by decide) h9 (fun hc12 h12 => ?_) (fun hc12 h12 => ?_)
    · exact mv_sub [] rfl (tb_No_hasCell_19 l D E B sa M0 M1 r N M h12)
    · refine mv_iconst (pc := 15) (v := 1) de_No_hasCell_15 (by decide) ?_
      refine mv_goto (pc := 16) (tgt := 20) de_No_hasCell_16 (by decide) ?_
      exact mv_sub [] rfl (tb_No_hasCell_20 l D E B sa M0 M1 r N M 1 h12)
theorem cm_No_hasCell (l : Launch) (D : va_G) (E : Nat → ClassId) (B : Nat) (sa : (Nat → Nat) × Nat × (Nat → Int32)) (N : Nat) (M : mv_M) (v0 : Nat) (v1 : Int32) (r : Int32) (M1 : mv_M) (hJ : jf_No_hasCell N M v0 v1 = some (r, M1)) : mv_Met (xg l D E B sa) yn_No_hasCell cd_No_hasCell 2 (some .boolean) 0 0 [va_rf (some v0), .int v1] M (some (.int r)) M1 :=
  mv_enter (by decide) (Nat.le_of_ble_eq_true rfl) (mv_sub (lv := [(0, va_rf (some v0)), (1, .int v1)]) [0, 1] rfl (tb_No_hasCell_0 l D E B sa M M1 r N M v0 v1 hJ))
/-! ===== java/lang/Math.min(II)I ===== -/
abbrev kd_Jm_min0 : mv_Kd := (cd_Jm_min0, 2, "java/lang/Math", "min", (some .int), 0, 0)
theorem de_Jm_min0_0 : decode cd_Jm_min0 0 = .ok (.iload_n 0, 1) := by decide +kernel
theorem de_Jm_min0_1 : decode cd_Jm_min0 1 = .ok (.iload_n 1, 1) := by decide +kernel
theorem de_Jm_min0_2 : decode cd_Jm_min0 2 = .ok (.if_icmp .gt 7, 3) := by decide +kernel
theorem de_Jm_min0_5 : decode cd_Jm_min0 5 = .ok (.iload_n 0, 1) := by decide +kernel
theorem de_Jm_min0_6 : decode cd_Jm_min0 6 = .ok (.goto 4, 3) := by decide +kernel
theorem de_Jm_min0_9 : decode cd_Jm_min0 9 = .ok (.iload_n 1, 1) := by decide +kernel
theorem de_Jm_min0_10 : decode cd_Jm_min0 10 = .ok (.ireturn, 1) := by decide +kernel
def jb_Jm_min0_10 (N : Nat) (M : mv_M) (s0 : Int32) : Option (Int32 × mv_M) :=
  some (s0, M)
def jb_Jm_min0_0 (N : Nat) (M : mv_M) (v0 : Int32) (v1 : Int32) : Option (Int32 × mv_M) :=
  if v1 < v0 then (jb_Jm_min0_10 N M v1) else
  jb_Jm_min0_10 N M v0
def jf_Jm_min0 (N : Nat) (M : mv_M) (v0 : Int32) (v1 : Int32) : Option (Int32 × mv_M) := jb_Jm_min0_0 N M v0 v1
set_option maxHeartbeats 4000000 in
set_option maxRecDepth 100000 in
theorem tb_Jm_min0_10 (l : Launch) (D : va_G) (E : Nat → ClassId) (B : Nat) (sa : (Nat → Nat) × Nat × (Nat → Int32)) (M0 M1 : mv_M) (r : Int32) (N : Nat) (M : mv_M) (s0 : Int32) (hJ : jb_Jm_min0_10 N M s0 = some (r, M1)) : mv_G (xg l D E B sa) kd_Jm_min0 M0 M1 (some (.int r)) M 10 [] [.int s0] := by
  unfold jb_Jm_min0_10 at hJ
  exact mv_iret (pc := 10) rfl de_Jm_min0_10 hJ
set_option maxHeartbeats 4000000 in
set_option maxRecDepth 100000 in
theorem tb_Jm_min0_0 (l : Launch) (D : va_G) (E : Nat → ClassId) (B : Nat) (sa : (Nat → Nat) × Nat × (Nat → Int32)) (M0 M1 : mv_M) (r : Int32) (N : Nat) (M : mv_M) (v0 : Int32) (v1 : Int32) (hJ : jb_Jm_min0_0 N M v0 v1 = some (r, M1)) : mv_G (xg l D E B sa) kd_Jm_min0 M0 M1 (some (.int r)) M 0 [(0, .int v0), (1, .int v1)] [] := by
  unfold jb_Jm_min0_0 at hJ
  refine mv_iload_n (pc := 0) (i := 0) de_Jm_min0_0 rfl 0 rfl ?_
  refine mv_iload_n (pc := 1) (i := 1) de_Jm_min0_1 rfl 1 rfl ?_
  refine mv_icmp_gt (pc := 2) (tgt := 9) de_Jm_min0_2 (by decide) hJ (fun hc2 h2 => ?_) (fun hc2 h2 => ?_)
  · refine mv_iload_n (pc := 9) (i := 1) de_Jm_min0_9 rfl 1 rfl ?_
    exact mv_sub [] rfl (tb_Jm_min0_10 l D E B sa M0 M1 r N M v1 h2)
  · refine mv_iload_n (pc := 5) (i := 0) de_Jm_min0_5 rfl 0 rfl ?_
    refine mv_goto (pc := 6) (tgt := 10) de_Jm_min0_6 (by decide) ?_
    exact mv_sub [] rfl (tb_Jm_min0_10 l D E B sa M0 M1 r N M v0 h2)
theorem cm_Jm_min0 (l : Launch) (D : va_G) (E : Nat → ClassId) (B : Nat) (sa : (Nat → Nat) × Nat × (Nat → Int32)) (N : Nat) (M : mv_M) (v0 : Int32) (v1 : Int32) (r : Int32) (M1 : mv_M) (hJ : jf_Jm_min0 N M v0 v1 = some (r, M1)) : mv_Met (xg l D E B sa) yn_Jm_min0 cd_Jm_min0 2 (some .int) 0 0 [.int v0, .int v1] M (some (.int r)) M1 :=
  mv_enterF (by decide +kernel) (Nat.le_of_ble_eq_true rfl) (mv_sub (lv := [(0, .int v0), (1, .int v1)]) [0, 1] rfl (tb_Jm_min0_0 l D E B sa M M1 r N M v0 v1 hJ))
/-! ===== PlainLearner$Tape.tellCell(IIJ)I ===== -/
abbrev kd_Tp_tellCell : mv_Kd := (cd_Tp_tellCell, 6, "PlainLearner$Tape", "tellCell", (some .int), 2, 43)
theorem de_Tp_tellCell_0 : decode cd_Tp_tellCell 0 = .ok (.aload_n 0, 1) := by decide +kernel
theorem de_Tp_tellCell_1 : decode cd_Tp_tellCell 1 = .ok (.iload_n 1, 1) := by decide +kernel
theorem de_Tp_tellCell_2 : decode cd_Tp_tellCell 2 = .ok (.invokevirtual 77, 3) := by decide +kernel
theorem de_Tp_tellCell_5 : decode cd_Tp_tellCell 5 = .ok (.astore 5, 2) := by decide +kernel
theorem de_Tp_tellCell_7 : decode cd_Tp_tellCell 7 = .ok (.aload 5, 2) := by decide +kernel
theorem de_Tp_tellCell_9 : decode cd_Tp_tellCell 9 = .ok (.ifnull 12, 3) := by decide +kernel
theorem de_Tp_tellCell_12 : decode cd_Tp_tellCell 12 = .ok (.aload 5, 2) := by decide +kernel
theorem de_Tp_tellCell_14 : decode cd_Tp_tellCell 14 = .ok (.iload_n 2, 1) := by decide +kernel
theorem de_Tp_tellCell_15 : decode cd_Tp_tellCell 15 = .ok (.invokevirtual 80, 3) := by decide +kernel
theorem de_Tp_tellCell_18 : decode cd_Tp_tellCell 18 = .ok (.ifCond .ne 5, 3) := by decide +kernel
theorem de_Tp_tellCell_21 : decode cd_Tp_tellCell 21 = .ok (.iconst (-1), 1) := by decide +kernel
theorem de_Tp_tellCell_22 : decode cd_Tp_tellCell 22 = .ok (.ireturn, 1) := by decide +kernel
theorem de_Tp_tellCell_23 : decode cd_Tp_tellCell 23 = .ok (.aload 5, 2) := by decide +kernel
theorem de_Tp_tellCell_25 : decode cd_Tp_tellCell 25 = .ok (.getfield 83, 3) := by decide +kernel
theorem de_Tp_tellCell_28 : decode cd_Tp_tellCell 28 = .ok (.iload_n 2, 1) := by decide +kernel
theorem de_Tp_tellCell_29 : decode cd_Tp_tellCell 29 = .ok (.lload_n 3, 1) := by decide +kernel
theorem de_Tp_tellCell_30 : decode cd_Tp_tellCell 30 = .ok (.lastore, 1) := by decide +kernel
theorem de_Tp_tellCell_31 : decode cd_Tp_tellCell 31 = .ok (.aload_n 0, 1) := by decide +kernel
theorem de_Tp_tellCell_32 : decode cd_Tp_tellCell 32 = .ok (.aload_n 0, 1) := by decide +kernel
theorem de_Tp_tellCell_33 : decode cd_Tp_tellCell 33 = .ok (.getfield 87, 3) := by decide +kernel
theorem de_Tp_tellCell_36 : decode cd_Tp_tellCell 36 = .ok (.iload_n 1, 1) := by decide +kernel
theorem de_Tp_tellCell_37 : decode cd_Tp_tellCell 37 = .ok (.iconst 1, 1) := by decide +kernel
theorem de_Tp_tellCell_38 : decode cd_Tp_tellCell 38 = .ok (.iadd, 1) := by decide +kernel
theorem de_Tp_tellCell_39 : decode cd_Tp_tellCell 39 = .ok (.invokestatic 90, 3) := by decide +kernel
theorem de_Tp_tellCell_42 : decode cd_Tp_tellCell 42 = .ok (.putfield 87, 3) := by decide +kernel
theorem de_Tp_tellCell_45 : decode cd_Tp_tellCell 45 = .ok (.lload_n 3, 1) := by decide +kernel
theorem de_Tp_tellCell_46 : decode cd_Tp_tellCell 46 = .ok (.lconst 0, 1) := by decide +kernel
theorem de_Tp_tellCell_47 : decode cd_Tp_tellCell 47 = .ok (.lcmp, 1) := by decide +kernel
theorem de_Tp_tellCell_48 : decode cd_Tp_tellCell 48 = .ok (.ifCond .ne 7, 3) := by decide +kernel
theorem de_Tp_tellCell_51 : decode cd_Tp_tellCell 51 = .ok (.iconst 1, 1) := by decide +kernel
theorem de_Tp_tellCell_52 : decode cd_Tp_tellCell 52 = .ok (.goto 4, 3) := by decide +kernel
theorem de_Tp_tellCell_55 : decode cd_Tp_tellCell 55 = .ok (.iconst 0, 1) := by decide +kernel
theorem de_Tp_tellCell_56 : decode cd_Tp_tellCell 56 = .ok (.ireturn, 1) := by decide +kernel
def jb_Tp_tellCell_21 (N : Nat) (M : mv_M) : Option (Int32 × mv_M) :=
  some ((-1), M)
def jb_Tp_tellCell_56 (N : Nat) (M : mv_M) (s0 : Int32) : Option (Int32 × mv_M) :=
  some (s0, M)
def jb_Tp_tellCell_0 (N : Nat) (M : mv_M) (v0 : Nat) (v1 : Int32) (v2 : Int32) (v3 : Int64) : Option (Int32 × mv_M) :=
  mj_ob M v0 7 <|
  mj_call (jf_Tp_findLeaf N M v0 v1) fun r2 Mm2 =>
  mj_opt r2 (jb_Tp_tellCell_21 N Mm2) fun a9 =>
  mj_ob Mm2 a9 2 <|
  mj_call (jf_No_hasCell N Mm2 a9 v2) fun r15 Mm15 =>
  if r15 = 0 then (jb_Tp_tellCell_21 N Mm15) else
  Option.bind (mj_getR Mm15 a9 2 9) fun x25 =>
  Option.bind x25 fun a30 =>
  Option.bind (mj_lst Mm15 a30 1 v2 v3) fun Mm30 =>
  Option.bind (mj_getI Mm30 v0 7 3) fun x33 =>
  mj_call (jf_Jm_min0 N Mm30 x33 (v1 + 1)) fun r39 Mm39 =>
  Option.bind (mj_put Mm39 v0 7 3 (.int r39)) fun Mm42 =>
  if (lg_cmp v3 0) = 0 then (jb_Tp_tellCell_56 N Mm42 1) else
  jb_Tp_tellCell_56 N Mm42 0
def jf_Tp_tellCell (N : Nat) (M : mv_M) (v0 : Nat) (v1 : Int32) (v2 : Int32) (v3 : Int64) : Option (Int32 × mv_M) := jb_Tp_tellCell_0 N M v0 v1 v2 v3
set_option maxHeartbeats 4000000 in
set_option maxRecDepth 100000 in
theorem tb_Tp_tellCell_21 (l : Launch) (D : va_G) (E : Nat → ClassId) (B : Nat) (sa : (Nat → Nat) × Nat × (Nat → Int32)) (M0 M1 : mv_M) (r : Int32) (N : Nat) (M : mv_M) (hJ : jb_Tp_tellCell_21 N M = some (r, M1)) : mv_G (xg l D E B sa) kd_Tp_tellCell M0 M1 (some (.int r)) M 21 [] [] := by
  unfold jb_Tp_tellCell_21 at hJ
  refine mv_iconst (pc := 21) (v := (-1)) de_Tp_tellCell_21 (by decide) ?_
  exact mv_iret (pc := 22) rfl de_Tp_tellCell_22 hJ
set_option maxHeartbeats 4000000 in
set_option maxRecDepth 100000 in
theorem tb_Tp_tellCell_56 (l : Launch) (D : va_G) (E : Nat → ClassId) (B : Nat) (sa : (Nat → Nat) × Nat × (Nat → Int32)) (M0 M1 : mv_M) (r : Int32) (N : Nat) (M : mv_M) (s0 : Int32) (hJ : jb_Tp_tellCell_56 N M s0 = some (r, M1)) : mv_G (xg l D E B sa) kd_Tp_tellCell M0 M1 (some (.int r)) M 56 [] [.int s0] := by
  unfold jb_Tp_tellCell_56 at hJ
  exact mv_iret (pc := 56) rfl de_Tp_tellCell_56 hJ
set_option maxHeartbeats 4000000 in
set_option maxRecDepth 100000 in
theorem tb_Tp_tellCell_0 (l : Launch) (D : va_G) (E : Nat → ClassId) (B : Nat) (sa : (Nat → Nat) × Nat × (Nat → Int32)) (M0 M1 : mv_M) (r : Int32) (N : Nat) (M : mv_M) (v0 : Nat) (v1 : Int32) (v2 : Int32) (v3 : Int64) (hJ : jb_Tp_tellCell_0 N M v0 v1 v2 v3 = some (r, M1)) : mv_G (xg l D E B sa) kd_Tp_tellCell M0 M1 (some (.int r)) M 0 [(0, va_rf (some v0)), (1, .int v1), (2, .int v2), (3, .long v3)] [] := by
  unfold jb_Tp_tellCell_0 at hJ
  refine mv_aload_n (pc := 0) (i := 0) de_Tp_tellCell_0 rfl 0 rfl ?_
  refine mv_iload_n (pc := 1) (i := 1) de_Tp_tellCell_1 rfl 1 rfl ?_
  obtain ⟨hi2, h2o⟩ := mj_obE hJ
  obtain ⟨r2, Mm2, hz2, h2⟩ := mj_callE h2o
  refine mv_callV (pc := 2) (n := 1) (av := [.int v1]) (rest := []) de_Tp_tellCell_2 (kc_7 l D E B sa) hi2 (cm_Tp_findLeaf l D E B sa N M v0 v1 _ _ hz2) wt_2_41 wt_2_43 wp_2 wt_1_2 wt_2_44 ⟨by decide, by decide, by decide +kernel⟩ rfl ⟨Nat.le_of_ble_eq_true rfl, Nat.le_of_ble_eq_true rfl⟩ (Nat.le_of_ble_eq_true rfl) rfl ?_
  refine mv_astore (pc := 5) (lv' := [(5, va_rf r2), (0, va_rf (some v0)), (1, .int v1), (2, .int v2), (3, .long v3)]) de_Tp_tellCell_5 (Nat.le_of_ble_eq_true rfl) rfl ?_
  refine mv_aload (pc := 7) de_Tp_tellCell_7 0 rfl ?_
  refine mv_ifnull (pc := 9) (tgt := 21) de_Tp_tellCell_9 (by decide) h2 (fun ha h9 => ?_) (fun a9 ha h9 => ?_)
  · subst ha
    exact mv_sub [] rfl (tb_Tp_tellCell_21 l D E B sa M0 M1 r N Mm2 h9)
  · subst ha
    refine mv_aload (pc := 12) de_Tp_tellCell_12 0 rfl ?_
    refine mv_iload_n (pc := 14) (i := 2) de_Tp_tellCell_14 rfl 3 rfl ?_
    obtain ⟨hi15, h15o⟩ := mj_obE h9
    obtain ⟨r15, Mm15, hz15, h15⟩ := mj_callE h15o
    refine mv_callV (pc := 15) (n := 1) (av := [.int v2]) (rest := []) de_Tp_tellCell_15 (kc_2 l D E B sa) hi15 (cm_No_hasCell l D E B sa N Mm2 a9 v2 _ _ hz15) wt_2_53 wt_2_54 wt_2_55 wt_1_10 wt_2_56 ⟨by decide, by decide, by decide +kernel⟩ rfl ⟨Nat.le_of_ble_eq_true rfl, Nat.le_of_ble_eq_true rfl⟩ (Nat.le_of_ble_eq_true rfl) rfl ?_
    refine mv_if_ne (pc := 18) (tgt := 23) de_Tp_tellCell_18 (by decide) h15 (fun hc18 h18 => ?_) (fun hc18 h18 => ?_)
    · exact mv_sub [] rfl (tb_Tp_tellCell_21 l D E B sa M0 M1 r N Mm15 h18)
    · refine mv_aload (pc := 23) de_Tp_tellCell_23 0 rfl ?_
      refine mv_getR (pc := 25) (f := 9) (kc_2 l D E B sa) (Nat.le_of_ble_eq_true rfl) wt_1_234 de_Tp_tellCell_25 h18 (fun x25 e25 h25 => ?_)
      refine mv_iload_n (pc := 28) (i := 2) de_Tp_tellCell_28 rfl 3 rfl ?_
      refine mv_lload_n (pc := 29) (i := 3) de_Tp_tellCell_29 rfl 4 rfl ?_
      obtain ⟨a30, ha, h30a⟩ := mj_bindE h25
      subst ha
      refine mv_last (pc := 30) (t := 1) rfl de_Tp_tellCell_30 h30a (fun Mm30 e30 h30 => ?_)
      refine mv_aload_n (pc := 31) (i := 0) de_Tp_tellCell_31 rfl 1 rfl ?_
      refine mv_aload_n (pc := 32) (i := 0) de_Tp_tellCell_32 rfl 1 rfl ?_
      refine mv_getI (pc := 33) (f := 3) (kc_7 l D E B sa) (Nat.le_of_ble_eq_true rfl) wt_1_50 de_Tp_tellCell_33 h30 (fun x33 e33 h33 => ?_)
      refine mv_iload_n (pc := 36) (i := 1) de_Tp_tellCell_36 rfl 2 rfl ?_
      refine mv_iconst (pc := 37) (v := 1) de_Tp_tellCell_37 (by decide) ?_
      refine mv_iadd (pc := 38) de_Tp_tellCell_38 ?_
      obtain ⟨r39, Mm39, hz39, h39⟩ := mj_callE h33
      refine mv_callS (pc := 39) (n := 2) (av := [.int x33, .int (v1 + 1)]) (rest := [va_rf (some v0)]) de_Tp_tellCell_39 (cm_Jm_min0 l D E B sa N Mm30 x33 (v1 + 1) _ _ hz39) wt_2_57 wt_2_58 wt_1_12 wt_2_59 ⟨by decide, by decide, by decide +kernel⟩ rfl ⟨Nat.le_of_ble_eq_true rfl, Nat.le_of_ble_eq_true rfl⟩ (Nat.le_of_ble_eq_true rfl) rfl ?_
      refine mv_put (pc := 42) (f := 3) (kc_7 l D E B sa) (Nat.le_of_ble_eq_true rfl) wt_1_50 rfl rfl rfl de_Tp_tellCell_42 h39 (fun Mm42 e42 h42 => ?_)
      refine mv_lload_n (pc := 45) (i := 3) de_Tp_tellCell_45 rfl 4 rfl ?_
      refine mv_lconst (pc := 46) (v := 0) de_Tp_tellCell_46 (by decide) ?_
      refine mv_lcmp (pc := 47) de_Tp_tellCell_47 ?_
      refine mv_if_ne (pc := 48) (tgt := 55) de_Tp_tellCell_48 (by decide) h42 (fun hc48 h48 => ?_) (fun hc48 h48 => ?_)
      · refine mv_iconst (pc := 51) (v := 1) de_Tp_tellCell_51 (by decide) ?_
        refine mv_goto (pc := 52) (tgt := 56) de_Tp_tellCell_52 (by decide) ?_
        exact mv_sub [] rfl (tb_Tp_tellCell_56 l D E B sa M0 M1 r N Mm42 1 h48)
      · refine mv_iconst (pc := 55) (v := 0) de_Tp_tellCell_55 (by decide) ?_
        exact mv_sub [] rfl (tb_Tp_tellCell_56 l D E B sa M0 M1 r N Mm42 0 h48)
theorem cm_Tp_tellCell (l : Launch) (D : va_G) (E : Nat → ClassId) (B : Nat) (sa : (Nat → Nat) × Nat × (Nat → Int32)) (N : Nat) (M : mv_M) (v0 : Nat) (v1 : Int32) (v2 : Int32) (v3 : Int64) (r : Int32) (M1 : mv_M) (hJ : jf_Tp_tellCell N M v0 v1 v2 v3 = some (r, M1)) : mv_Met (xg l D E B sa) yn_Tp_tellCell cd_Tp_tellCell 6 (some .int) 2 43 [va_rf (some v0), .int v1, .int v2, .long v3] M (some (.int r)) M1 :=
  mv_enter (by decide) (Nat.le_of_ble_eq_true rfl) (mv_sub (lv := [(0, va_rf (some v0)), (1, .int v1), (2, .int v2), (3, .long v3)]) [0, 1, 2, 3] rfl (tb_Tp_tellCell_0 l D E B sa M M1 r N M v0 v1 v2 v3 hJ))
/-! ===== PlainLearner.tell(IIII)I ===== -/
abbrev kd_PL_tell : mv_Kd := (cd_PL_tell, 5, "PlainLearner", "tell", (some .int), 3, 68)
theorem de_PL_tell_0 : decode cd_PL_tell 0 = .ok (.aload_n 0, 1) := by decide +kernel
theorem de_PL_tell_1 : decode cd_PL_tell 1 = .ok (.getfield 10, 3) := by decide +kernel
theorem de_PL_tell_4 : decode cd_PL_tell 4 = .ok (.iload_n 1, 1) := by decide +kernel
theorem de_PL_tell_5 : decode cd_PL_tell 5 = .ok (.iload_n 2, 1) := by decide +kernel
theorem de_PL_tell_6 : decode cd_PL_tell 6 = .ok (.iload_n 3, 1) := by decide +kernel
theorem de_PL_tell_7 : decode cd_PL_tell 7 = .ok (.i2l, 1) := by decide +kernel
theorem de_PL_tell_8 : decode cd_PL_tell 8 = .ok (.iload 4, 2) := by decide +kernel
theorem de_PL_tell_10 : decode cd_PL_tell 10 = .ok (.i2l, 1) := by decide +kernel
theorem de_PL_tell_11 : decode cd_PL_tell 11 = .ok (.invokestatic 54, 3) := by decide +kernel
theorem de_PL_tell_14 : decode cd_PL_tell 14 = .ok (.invokevirtual 60, 3) := by decide +kernel
theorem de_PL_tell_17 : decode cd_PL_tell 17 = .ok (.ireturn, 1) := by decide +kernel
def jb_PL_tell_0 (N : Nat) (M : mv_M) (v0 : Nat) (v1 : Int32) (v2 : Int32) (v3 : Int32) (v4 : Int32) : Option (Int32 × mv_M) :=
  Option.bind (mj_getR M v0 0 0) fun x1 =>
  mj_call (jf_Fr_of N M v3.toInt64 v4.toInt64) fun r11 Mm11 =>
  Option.bind x1 fun a14 =>
  mj_ob Mm11 a14 7 <|
  mj_call (jf_Tp_tellCell N Mm11 a14 v1 v2 r11) fun r14 Mm14 =>
  some (r14, Mm14)
def jf_PL_tell (N : Nat) (M : mv_M) (v0 : Nat) (v1 : Int32) (v2 : Int32) (v3 : Int32) (v4 : Int32) : Option (Int32 × mv_M) := jb_PL_tell_0 N M v0 v1 v2 v3 v4
set_option maxHeartbeats 4000000 in
set_option maxRecDepth 100000 in
theorem tb_PL_tell_0 (l : Launch) (D : va_G) (E : Nat → ClassId) (B : Nat) (sa : (Nat → Nat) × Nat × (Nat → Int32)) (M0 M1 : mv_M) (r : Int32) (N : Nat) (M : mv_M) (v0 : Nat) (v1 : Int32) (v2 : Int32) (v3 : Int32) (v4 : Int32) (hJ : jb_PL_tell_0 N M v0 v1 v2 v3 v4 = some (r, M1)) : mv_G (xg l D E B sa) kd_PL_tell M0 M1 (some (.int r)) M 0 [(0, va_rf (some v0)), (1, .int v1), (2, .int v2), (3, .int v3), (4, .int v4)] [] := by
  unfold jb_PL_tell_0 at hJ
  refine mv_aload_n (pc := 0) (i := 0) de_PL_tell_0 rfl 0 rfl ?_
  refine mv_getR (pc := 1) (f := 0) (kc_0 l D E B sa) (Nat.le_of_ble_eq_true rfl) wt_1_146 de_PL_tell_1 hJ (fun x1 e1 h1 => ?_)
  refine mv_iload_n (pc := 4) (i := 1) de_PL_tell_4 rfl 1 rfl ?_
  refine mv_iload_n (pc := 5) (i := 2) de_PL_tell_5 rfl 2 rfl ?_
  refine mv_iload_n (pc := 6) (i := 3) de_PL_tell_6 rfl 3 rfl ?_
  refine mv_i2l (pc := 7) de_PL_tell_7 ?_
  refine mv_iload (pc := 8) de_PL_tell_8 4 rfl ?_
  refine mv_i2l (pc := 10) de_PL_tell_10 ?_
  obtain ⟨r11, Mm11, hz11, h11⟩ := mj_callE h1
  refine mv_callS (pc := 11) (n := 2) (av := [.long v3.toInt64, .long v4.toInt64]) (rest := [.int v2, .int v1, va_rf x1]) de_PL_tell_11 (cm_Fr_of l D E B sa N M v3.toInt64 v4.toInt64 _ _ hz11) wt_2_36 wt_1_35 wt_1_3 wt_1_36 ⟨by decide, by decide, by decide +kernel⟩ rfl ⟨Nat.le_of_ble_eq_true rfl, Nat.le_of_ble_eq_true rfl⟩ (by simp [mv_cat, mv_cI, mv_cJ]) rfl ?_
  obtain ⟨a14, ha, h14a⟩ := mj_bindE h11
  subst ha
  obtain ⟨hi14, h14o⟩ := mj_obE h14a
  obtain ⟨r14, Mm14, hz14, h14⟩ := mj_callE h14o
  refine mv_callV (pc := 14) (n := 3) (av := [.int v1, .int v2, .long r11]) (rest := []) de_PL_tell_14 (kc_7 l D E B sa) hi14 (cm_Tp_tellCell l D E B sa N Mm11 a14 v1 v2 r11 _ _ hz14) wt_2_37 wt_2_38 wt_2_39 wt_1_2 wt_2_40 ⟨by decide, by decide, by decide +kernel⟩ rfl ⟨Nat.le_of_ble_eq_true rfl, Nat.le_of_ble_eq_true rfl⟩ (Nat.le_of_ble_eq_true rfl) rfl ?_
  exact mv_iret (pc := 17) rfl de_PL_tell_17 h14
theorem cm_PL_tell (l : Launch) (D : va_G) (E : Nat → ClassId) (B : Nat) (sa : (Nat → Nat) × Nat × (Nat → Int32)) (N : Nat) (M : mv_M) (v0 : Nat) (v1 : Int32) (v2 : Int32) (v3 : Int32) (v4 : Int32) (r : Int32) (M1 : mv_M) (hJ : jf_PL_tell N M v0 v1 v2 v3 v4 = some (r, M1)) : mv_Met (xg l D E B sa) yn_PL_tell cd_PL_tell 5 (some .int) 3 68 [va_rf (some v0), .int v1, .int v2, .int v3, .int v4] M (some (.int r)) M1 :=
  mv_enter (by decide) (Nat.le_of_ble_eq_true rfl) (mv_sub (lv := [(0, va_rf (some v0)), (1, .int v1), (2, .int v2), (3, .int v3), (4, .int v4)]) [0, 1, 2, 3, 4] rfl (tb_PL_tell_0 l D E B sa M M1 r N M v0 v1 v2 v3 v4 hJ))
/-! ===== PlainLearner$Ops.isOp(I)Z ===== -/
abbrev kd_Op_isOp : mv_Kd := (cd_Op_isOp, 1, "PlainLearner$Ops", "isOp", (some .boolean), 0, 0)
theorem de_Op_isOp_0 : decode cd_Op_isOp 0 = .ok (.iload_n 0, 1) := by decide +kernel
theorem de_Op_isOp_1 : decode cd_Op_isOp 1 = .ok (.ifCond .lt 13, 3) := by decide +kernel
theorem de_Op_isOp_4 : decode cd_Op_isOp 4 = .ok (.iload_n 0, 1) := by decide +kernel
theorem de_Op_isOp_5 : decode cd_Op_isOp 5 = .ok (.bipush 15, 2) := by decide +kernel
theorem de_Op_isOp_7 : decode cd_Op_isOp 7 = .ok (.if_icmp .gt 7, 3) := by decide +kernel
theorem de_Op_isOp_10 : decode cd_Op_isOp 10 = .ok (.iconst 1, 1) := by decide +kernel
theorem de_Op_isOp_11 : decode cd_Op_isOp 11 = .ok (.goto 4, 3) := by decide +kernel
theorem de_Op_isOp_14 : decode cd_Op_isOp 14 = .ok (.iconst 0, 1) := by decide +kernel
theorem de_Op_isOp_15 : decode cd_Op_isOp 15 = .ok (.ireturn, 1) := by decide +kernel
def jb_Op_isOp_15 (N : Nat) (M : mv_M) (s0 : Int32) : Option (Int32 × mv_M) :=
  if s0 = 0 ∨ s0 = 1 then some (s0, M) else none
def jb_Op_isOp_14 (N : Nat) (M : mv_M) : Option (Int32 × mv_M) :=
  jb_Op_isOp_15 N M 0
def jb_Op_isOp_0 (N : Nat) (M : mv_M) (v0 : Int32) : Option (Int32 × mv_M) :=
  if v0 < 0 then (jb_Op_isOp_14 N M) else
  if 15 < v0 then (jb_Op_isOp_14 N M) else
  jb_Op_isOp_15 N M 1
def jf_Op_isOp (N : Nat) (M : mv_M) (v0 : Int32) : Option (Int32 × mv_M) := jb_Op_isOp_0 N M v0
set_option maxHeartbeats 4000000 in
set_option maxRecDepth 100000 in
theorem tb_Op_isOp_15 (l : Launch) (D : va_G) (E : Nat → ClassId) (B : Nat) (sa : (Nat → Nat) × Nat × (Nat → Int32)) (M0 M1 : mv_M) (r : Int32) (N : Nat) (M : mv_M) (s0 : Int32) (hJ : jb_Op_isOp_15 N M s0 = some (r, M1)) : mv_G (xg l D E B sa) kd_Op_isOp M0 M1 (some (.int r)) M 15 [] [.int s0] := by
  unfold jb_Op_isOp_15 at hJ
  exact mv_zret (pc := 15) rfl de_Op_isOp_15 hJ
set_option maxHeartbeats 4000000 in
set_option maxRecDepth 100000 in
theorem tb_Op_isOp_14 (l : Launch) (D : va_G) (E : Nat → ClassId) (B : Nat) (sa : (Nat → Nat) × Nat × (Nat → Int32)) (M0 M1 : mv_M) (r : Int32) (N : Nat) (M : mv_M) (hJ : jb_Op_isOp_14 N M = some (r, M1)) : mv_G (xg l D E B sa) kd_Op_isOp M0 M1 (some (.int r)) M 14 [] [] := by
  unfold jb_Op_isOp_14 at hJ
  refine mv_iconst (pc := 14) (v := 0) de_Op_isOp_14 (by decide) ?_
  exact mv_sub [] rfl (tb_Op_isOp_15 l D E B sa M0 M1 r N M 0 hJ)
set_option maxHeartbeats 4000000 in
set_option maxRecDepth 100000 in
theorem tb_Op_isOp_0 (l : Launch) (D : va_G) (E : Nat → ClassId) (B : Nat) (sa : (Nat → Nat) × Nat × (Nat → Int32)) (M0 M1 : mv_M) (r : Int32) (N : Nat) (M : mv_M) (v0 : Int32) (hJ : jb_Op_isOp_0 N M v0 = some (r, M1)) : mv_G (xg l D E B sa) kd_Op_isOp M0 M1 (some (.int r)) M 0 [(0, .int v0)] [] := by
  unfold jb_Op_isOp_0 at hJ
  refine mv_iload_n (pc := 0) (i := 0) de_Op_isOp_0 rfl 0 rfl ?_
  refine mv_if_lt (pc := 1) (tgt := 14) de_Op_isOp_1 (by decide) hJ (fun hc1 h1 => ?_) (fun hc1 h1 => ?_)
  · exact mv_sub [] rfl (tb_Op_isOp_14 l D E B sa M0 M1 r N M h1)
  · refine mv_iload_n (pc := 4) (i := 0) de_Op_isOp_4 rfl 0 rfl ?_
    refine mv_bipush (pc := 5) (v := 15) de_Op_isOp_5 (by decide) ?_
    refine mv_icmp_gt (pc := 7) (tgt := 14) de_Op_isOp_7 (by decide) h1 (fun hc7 h7 => ?_) (fun hc7 h7 => ?_)
    · exact mv_sub [] rfl (tb_Op_isOp_14 l D E B sa M0 M1 r N M h7)
    · refine mv_iconst (pc := 10) (v := 1) de_Op_isOp_10 (by decide) ?_
      refine mv_goto (pc := 11) (tgt := 15) de_Op_isOp_11 (by decide) ?_
      exact mv_sub [] rfl (tb_Op_isOp_15 l D E B sa M0 M1 r N M 1 h7)
theorem cm_Op_isOp (l : Launch) (D : va_G) (E : Nat → ClassId) (B : Nat) (sa : (Nat → Nat) × Nat × (Nat → Int32)) (N : Nat) (M : mv_M) (v0 : Int32) (r : Int32) (M1 : mv_M) (hJ : jf_Op_isOp N M v0 = some (r, M1)) : mv_Met (xg l D E B sa) yn_Op_isOp cd_Op_isOp 1 (some .boolean) 0 0 [.int v0] M (some (.int r)) M1 :=
  mv_enter (by decide) (Nat.le_of_ble_eq_true rfl) (mv_sub (lv := [(0, .int v0)]) [0] rfl (tb_Op_isOp_0 l D E B sa M M1 r N M v0 hJ))
/-! ===== PlainLearner$Ops.isOfTwo(I)Z ===== -/
abbrev kd_Op_isOfTwo : mv_Kd := (cd_Op_isOfTwo, 1, "PlainLearner$Ops", "isOfTwo", (some .boolean), 0, 0)
theorem de_Op_isOfTwo_0 : decode cd_Op_isOfTwo 0 = .ok (.iload_n 0, 1) := by decide +kernel
theorem de_Op_isOfTwo_1 : decode cd_Op_isOfTwo 1 = .ok (.iconst 4, 1) := by decide +kernel
theorem de_Op_isOfTwo_2 : decode cd_Op_isOfTwo 2 = .ok (.if_icmp .gt 7, 3) := by decide +kernel
theorem de_Op_isOfTwo_5 : decode cd_Op_isOfTwo 5 = .ok (.iconst 1, 1) := by decide +kernel
theorem de_Op_isOfTwo_6 : decode cd_Op_isOfTwo 6 = .ok (.goto 4, 3) := by decide +kernel
theorem de_Op_isOfTwo_9 : decode cd_Op_isOfTwo 9 = .ok (.iconst 0, 1) := by decide +kernel
theorem de_Op_isOfTwo_10 : decode cd_Op_isOfTwo 10 = .ok (.ireturn, 1) := by decide +kernel
def jb_Op_isOfTwo_10 (N : Nat) (M : mv_M) (s0 : Int32) : Option (Int32 × mv_M) :=
  if s0 = 0 ∨ s0 = 1 then some (s0, M) else none
def jb_Op_isOfTwo_0 (N : Nat) (M : mv_M) (v0 : Int32) : Option (Int32 × mv_M) :=
  if 4 < v0 then (jb_Op_isOfTwo_10 N M 0) else
  jb_Op_isOfTwo_10 N M 1
def jf_Op_isOfTwo (N : Nat) (M : mv_M) (v0 : Int32) : Option (Int32 × mv_M) := jb_Op_isOfTwo_0 N M v0
set_option maxHeartbeats 4000000 in
set_option maxRecDepth 100000 in
theorem tb_Op_isOfTwo_10 (l : Launch) (D : va_G) (E : Nat → ClassId) (B : Nat) (sa : (Nat → Nat) × Nat × (Nat → Int32)) (M0 M1 : mv_M) (r : Int32) (N : Nat) (M : mv_M) (s0 : Int32) (hJ : jb_Op_isOfTwo_10 N M s0 = some (r, M1)) : mv_G (xg l D E B sa) kd_Op_isOfTwo M0 M1 (some (.int r)) M 10 [] [.int s0] := by
  unfold jb_Op_isOfTwo_10 at hJ
  exact mv_zret (pc := 10) rfl de_Op_isOfTwo_10 hJ
set_option maxHeartbeats 4000000 in
set_option maxRecDepth 100000 in
theorem tb_Op_isOfTwo_0 (l : Launch) (D : va_G) (E : Nat → ClassId) (B : Nat) (sa : (Nat → Nat) × Nat × (Nat → Int32)) (M0 M1 : mv_M) (r : Int32) (N : Nat) (M : mv_M) (v0 : Int32) (hJ : jb_Op_isOfTwo_0 N M v0 = some (r, M1)) : mv_G (xg l D E B sa) kd_Op_isOfTwo M0 M1 (some (.int r)) M 0 [(0, .int v0)] [] := by
  unfold jb_Op_isOfTwo_0 at hJ
  refine mv_iload_n (pc := 0) (i := 0) de_Op_isOfTwo_0 rfl 0 rfl ?_
  refine mv_iconst (pc := 1) (v := 4) de_Op_isOfTwo_1 (by decide) ?_
  refine mv_icmp_gt (pc := 2) (tgt := 9) de_Op_isOfTwo_2 (by decide) hJ (fun hc2 h2 => ?_) (fun hc2 h2 => ?_)
  · refine mv_iconst (pc := 9) (v := 0) de_Op_isOfTwo_9 (by decide) ?_
    exact mv_sub [] rfl (tb_Op_isOfTwo_10 l D E B sa M0 M1 r N M 0 h2)
  · refine mv_iconst (pc := 5) (v := 1) de_Op_isOfTwo_5 (by decide) ?_
    refine mv_goto (pc := 6) (tgt := 10) de_Op_isOfTwo_6 (by decide) ?_
    exact mv_sub [] rfl (tb_Op_isOfTwo_10 l D E B sa M0 M1 r N M 1 h2)
theorem cm_Op_isOfTwo (l : Launch) (D : va_G) (E : Nat → ClassId) (B : Nat) (sa : (Nat → Nat) × Nat × (Nat → Int32)) (N : Nat) (M : mv_M) (v0 : Int32) (r : Int32) (M1 : mv_M) (hJ : jf_Op_isOfTwo N M v0 = some (r, M1)) : mv_Met (xg l D E B sa) yn_Op_isOfTwo cd_Op_isOfTwo 1 (some .boolean) 0 0 [.int v0] M (some (.int r)) M1 :=
  mv_enter (by decide) (Nat.le_of_ble_eq_true rfl) (mv_sub (lv := [(0, .int v0)]) [0] rfl (tb_Op_isOfTwo_0 l D E B sa M M1 r N M v0 hJ))
/-! ===== PlainLearner$Shape.spread(II)Z ===== -/
abbrev kd_Sh_spread : mv_Kd := (cd_Sh_spread, 2, "PlainLearner$Shape", "spread", (some .boolean), 0, 0)
theorem de_Sh_spread_0 : decode cd_Sh_spread 0 = .ok (.iload_n 0, 1) := by decide +kernel
theorem de_Sh_spread_1 : decode cd_Sh_spread 1 = .ok (.iload_n 1, 1) := by decide +kernel
theorem de_Sh_spread_2 : decode cd_Sh_spread 2 = .ok (.if_icmp .eq 13, 3) := by decide +kernel
theorem de_Sh_spread_5 : decode cd_Sh_spread 5 = .ok (.iload_n 0, 1) := by decide +kernel
theorem de_Sh_spread_6 : decode cd_Sh_spread 6 = .ok (.iconst 1, 1) := by decide +kernel
theorem de_Sh_spread_7 : decode cd_Sh_spread 7 = .ok (.if_icmp .eq 8, 3) := by decide +kernel
theorem de_Sh_spread_10 : decode cd_Sh_spread 10 = .ok (.iload_n 1, 1) := by decide +kernel
theorem de_Sh_spread_11 : decode cd_Sh_spread 11 = .ok (.iconst 1, 1) := by decide +kernel
theorem de_Sh_spread_12 : decode cd_Sh_spread 12 = .ok (.if_icmp .ne 7, 3) := by decide +kernel
theorem de_Sh_spread_15 : decode cd_Sh_spread 15 = .ok (.iconst 1, 1) := by decide +kernel
theorem de_Sh_spread_16 : decode cd_Sh_spread 16 = .ok (.goto 4, 3) := by decide +kernel
theorem de_Sh_spread_19 : decode cd_Sh_spread 19 = .ok (.iconst 0, 1) := by decide +kernel
theorem de_Sh_spread_20 : decode cd_Sh_spread 20 = .ok (.ireturn, 1) := by decide +kernel
def jb_Sh_spread_20 (N : Nat) (M : mv_M) (s0 : Int32) : Option (Int32 × mv_M) :=
  if s0 = 0 ∨ s0 = 1 then some (s0, M) else none
def jb_Sh_spread_15 (N : Nat) (M : mv_M) : Option (Int32 × mv_M) :=
  jb_Sh_spread_20 N M 1
def jb_Sh_spread_0 (N : Nat) (M : mv_M) (v0 : Int32) (v1 : Int32) : Option (Int32 × mv_M) :=
  if v0 = v1 then (jb_Sh_spread_15 N M) else
  if v0 = 1 then (jb_Sh_spread_15 N M) else
  if v1 = 1 then (jb_Sh_spread_15 N M) else
  jb_Sh_spread_20 N M 0
def jf_Sh_spread (N : Nat) (M : mv_M) (v0 : Int32) (v1 : Int32) : Option (Int32 × mv_M) := jb_Sh_spread_0 N M v0 v1
set_option maxHeartbeats 4000000 in
set_option maxRecDepth 100000 in
theorem tb_Sh_spread_20 (l : Launch) (D : va_G) (E : Nat → ClassId) (B : Nat) (sa : (Nat → Nat) × Nat × (Nat → Int32)) (M0 M1 : mv_M) (r : Int32) (N : Nat) (M : mv_M) (s0 : Int32) (hJ : jb_Sh_spread_20 N M s0 = some (r, M1)) : mv_G (xg l D E B sa) kd_Sh_spread M0 M1 (some (.int r)) M 20 [] [.int s0] := by
  unfold jb_Sh_spread_20 at hJ
  exact mv_zret (pc := 20) rfl de_Sh_spread_20 hJ
set_option maxHeartbeats 4000000 in
set_option maxRecDepth 100000 in
theorem tb_Sh_spread_15 (l : Launch) (D : va_G) (E : Nat → ClassId) (B : Nat) (sa : (Nat → Nat) × Nat × (Nat → Int32)) (M0 M1 : mv_M) (r : Int32) (N : Nat) (M : mv_M) (hJ : jb_Sh_spread_15 N M = some (r, M1)) : mv_G (xg l D E B sa) kd_Sh_spread M0 M1 (some (.int r)) M 15 [] [] := by
  unfold jb_Sh_spread_15 at hJ
  refine mv_iconst (pc := 15) (v := 1) de_Sh_spread_15 (by decide) ?_
  refine mv_goto (pc := 16) (tgt := 20) de_Sh_spread_16 (by decide) ?_
  exact mv_sub [] rfl (tb_Sh_spread_20 l D E B sa M0 M1 r N M 1 hJ)
set_option maxHeartbeats 4000000 in
set_option maxRecDepth 100000 in
theorem tb_Sh_spread_0 (l : Launch) (D : va_G) (E : Nat → ClassId) (B : Nat) (sa : (Nat → Nat) × Nat × (Nat → Int32)) (M0 M1 : mv_M) (r : Int32) (N : Nat) (M : mv_M) (v0 : Int32) (v1 : Int32) (hJ : jb_Sh_spread_0 N M v0 v1 = some (r, M1)) : mv_G (xg l D E B sa) kd_Sh_spread M0 M1 (some (.int r)) M 0 [(0, .int v0), (1, .int v1)] [] := by
  unfold jb_Sh_spread_0 at hJ
  refine mv_iload_n (pc := 0) (i := 0) de_Sh_spread_0 rfl 0 rfl ?_
  refine mv_iload_n (pc := 1) (i := 1) de_Sh_spread_1 rfl 1 rfl ?_
  refine mv_icmp_eq (pc := 2) (tgt := 15) de_Sh_spread_2 (by decide) hJ (fun hc2 h2 => ?_) (fun hc2 h2 => ?_)
  · exact mv_sub [] rfl (tb_Sh_spread_15 l D E B sa M0 M1 r N M h2)
  · refine mv_iload_n (pc := 5) (i := 0) de_Sh_spread_5 rfl 0 rfl ?_
    refine mv_iconst (pc := 6) (v := 1) de_Sh_spread_6 (by decide) ?_
    refine mv_icmp_eq (pc := 7) (tgt := 15) de_Sh_spread_7 (by decide) h2 (fun hc7 h7 => ?_) (fun hc7 h7 => ?_)
    · exact mv_sub [] rfl (tb_Sh_spread_15 l D E B sa M0 M1 r N M h7)
    · refine mv_iload_n (pc := 10) (i := 1) de_Sh_spread_10 rfl 1 rfl ?_
      refine mv_iconst (pc := 11) (v := 1) de_Sh_spread_11 (by decide) ?_
      refine mv_icmp_ne (pc := 12) (tgt := 19) de_Sh_spread_12 (by decide) h7 (fun hc12 h12 => ?_) (fun hc12 h12 => ?_)
      · exact mv_sub [] rfl (tb_Sh_spread_15 l D E B sa M0 M1 r N M h12)
      · refine mv_iconst (pc := 19) (v := 0) de_Sh_spread_19 (by decide) ?_
        exact mv_sub [] rfl (tb_Sh_spread_20 l D E B sa M0 M1 r N M 0 h12)
theorem cm_Sh_spread (l : Launch) (D : va_G) (E : Nat → ClassId) (B : Nat) (sa : (Nat → Nat) × Nat × (Nat → Int32)) (N : Nat) (M : mv_M) (v0 : Int32) (v1 : Int32) (r : Int32) (M1 : mv_M) (hJ : jf_Sh_spread N M v0 v1 = some (r, M1)) : mv_Met (xg l D E B sa) yn_Sh_spread cd_Sh_spread 2 (some .boolean) 0 0 [.int v0, .int v1] M (some (.int r)) M1 :=
  mv_enter (by decide) (Nat.le_of_ble_eq_true rfl) (mv_sub (lv := [(0, .int v0), (1, .int v1)]) [0, 1] rfl (tb_Sh_spread_0 l D E B sa M M1 r N M v0 v1 hJ))
/-! ===== java/lang/Math.max(II)I ===== -/
abbrev kd_Jm_max : mv_Kd := (cd_Jm_max, 2, "java/lang/Math", "max", (some .int), 0, 0)
theorem de_Jm_max_0 : decode cd_Jm_max 0 = .ok (.iload_n 0, 1) := by decide +kernel
theorem de_Jm_max_1 : decode cd_Jm_max 1 = .ok (.iload_n 1, 1) := by decide +kernel
theorem de_Jm_max_2 : decode cd_Jm_max 2 = .ok (.if_icmp .lt 7, 3) := by decide +kernel
theorem de_Jm_max_5 : decode cd_Jm_max 5 = .ok (.iload_n 0, 1) := by decide +kernel
theorem de_Jm_max_6 : decode cd_Jm_max 6 = .ok (.goto 4, 3) := by decide +kernel
theorem de_Jm_max_9 : decode cd_Jm_max 9 = .ok (.iload_n 1, 1) := by decide +kernel
theorem de_Jm_max_10 : decode cd_Jm_max 10 = .ok (.ireturn, 1) := by decide +kernel
def jb_Jm_max_10 (N : Nat) (M : mv_M) (s0 : Int32) : Option (Int32 × mv_M) :=
  some (s0, M)
def jb_Jm_max_0 (N : Nat) (M : mv_M) (v0 : Int32) (v1 : Int32) : Option (Int32 × mv_M) :=
  if v0 < v1 then (jb_Jm_max_10 N M v1) else
  jb_Jm_max_10 N M v0
def jf_Jm_max (N : Nat) (M : mv_M) (v0 : Int32) (v1 : Int32) : Option (Int32 × mv_M) := jb_Jm_max_0 N M v0 v1
set_option maxHeartbeats 4000000 in
set_option maxRecDepth 100000 in
theorem tb_Jm_max_10 (l : Launch) (D : va_G) (E : Nat → ClassId) (B : Nat) (sa : (Nat → Nat) × Nat × (Nat → Int32)) (M0 M1 : mv_M) (r : Int32) (N : Nat) (M : mv_M) (s0 : Int32) (hJ : jb_Jm_max_10 N M s0 = some (r, M1)) : mv_G (xg l D E B sa) kd_Jm_max M0 M1 (some (.int r)) M 10 [] [.int s0] := by
  unfold jb_Jm_max_10 at hJ
  exact mv_iret (pc := 10) rfl de_Jm_max_10 hJ
set_option maxHeartbeats 4000000 in
set_option maxRecDepth 100000 in
theorem tb_Jm_max_0 (l : Launch) (D : va_G) (E : Nat → ClassId) (B : Nat) (sa : (Nat → Nat) × Nat × (Nat → Int32)) (M0 M1 : mv_M) (r : Int32) (N : Nat) (M : mv_M) (v0 : Int32) (v1 : Int32) (hJ : jb_Jm_max_0 N M v0 v1 = some (r, M1)) : mv_G (xg l D E B sa) kd_Jm_max M0 M1 (some (.int r)) M 0 [(0, .int v0), (1, .int v1)] [] := by
  unfold jb_Jm_max_0 at hJ
  refine mv_iload_n (pc := 0) (i := 0) de_Jm_max_0 rfl 0 rfl ?_
  refine mv_iload_n (pc := 1) (i := 1) de_Jm_max_1 rfl 1 rfl ?_
  refine mv_icmp_lt (pc := 2) (tgt := 9) de_Jm_max_2 (by decide) hJ (fun hc2 h2 => ?_) (fun hc2 h2 => ?_)
  · refine mv_iload_n (pc := 9) (i := 1) de_Jm_max_9 rfl 1 rfl ?_
    exact mv_sub [] rfl (tb_Jm_max_10 l D E B sa M0 M1 r N M v1 h2)
  · refine mv_iload_n (pc := 5) (i := 0) de_Jm_max_5 rfl 0 rfl ?_
    refine mv_goto (pc := 6) (tgt := 10) de_Jm_max_6 (by decide) ?_
    exact mv_sub [] rfl (tb_Jm_max_10 l D E B sa M0 M1 r N M v0 h2)
theorem cm_Jm_max (l : Launch) (D : va_G) (E : Nat → ClassId) (B : Nat) (sa : (Nat → Nat) × Nat × (Nat → Int32)) (N : Nat) (M : mv_M) (v0 : Int32) (v1 : Int32) (r : Int32) (M1 : mv_M) (hJ : jf_Jm_max N M v0 v1 = some (r, M1)) : mv_Met (xg l D E B sa) yn_Jm_max cd_Jm_max 2 (some .int) 0 0 [.int v0, .int v1] M (some (.int r)) M1 :=
  mv_enterF (by decide +kernel) (Nat.le_of_ble_eq_true rfl) (mv_sub (lv := [(0, .int v0), (1, .int v1)]) [0, 1] rfl (tb_Jm_max_0 l D E B sa M M1 r N M v0 v1 hJ))
/-! ===== PlainLearner$Shape.ofTwo(ILPlainLearner$Shape;LPlainLearner$Shape;)LPlainLearner$Shape; ===== -/
abbrev kd_Sh_ofTwo : mv_Kd := (cd_Sh_ofTwo, 4, "PlainLearner$Shape", "ofTwo", (some (.object "PlainLearner$Shape")), 2, 44)
theorem de_Sh_ofTwo_0 : decode cd_Sh_ofTwo 0 = .ok (.iload_n 0, 1) := by decide +kernel
theorem de_Sh_ofTwo_1 : decode cd_Sh_ofTwo 1 = .ok (.iconst 4, 1) := by decide +kernel
theorem de_Sh_ofTwo_2 : decode cd_Sh_ofTwo 2 = .ok (.if_icmp .ne 62, 3) := by decide +kernel
theorem de_Sh_ofTwo_5 : decode cd_Sh_ofTwo 5 = .ok (.aload_n 1, 1) := by decide +kernel
theorem de_Sh_ofTwo_6 : decode cd_Sh_ofTwo 6 = .ok (.getfield 7, 3) := by decide +kernel
theorem de_Sh_ofTwo_9 : decode cd_Sh_ofTwo 9 = .ok (.iconst 2, 1) := by decide +kernel
theorem de_Sh_ofTwo_10 : decode cd_Sh_ofTwo 10 = .ok (.if_icmp .ne 26, 3) := by decide +kernel
theorem de_Sh_ofTwo_13 : decode cd_Sh_ofTwo 13 = .ok (.aload_n 2, 1) := by decide +kernel
theorem de_Sh_ofTwo_14 : decode cd_Sh_ofTwo 14 = .ok (.getfield 7, 3) := by decide +kernel
theorem de_Sh_ofTwo_17 : decode cd_Sh_ofTwo 17 = .ok (.iconst 2, 1) := by decide +kernel
theorem de_Sh_ofTwo_18 : decode cd_Sh_ofTwo 18 = .ok (.if_icmp .ne 18, 3) := by decide +kernel
theorem de_Sh_ofTwo_21 : decode cd_Sh_ofTwo 21 = .ok (.aload_n 1, 1) := by decide +kernel
theorem de_Sh_ofTwo_22 : decode cd_Sh_ofTwo 22 = .ok (.getfield 19, 3) := by decide +kernel
theorem de_Sh_ofTwo_25 : decode cd_Sh_ofTwo 25 = .ok (.aload_n 2, 1) := by decide +kernel
theorem de_Sh_ofTwo_26 : decode cd_Sh_ofTwo 26 = .ok (.getfield 16, 3) := by decide +kernel
theorem de_Sh_ofTwo_29 : decode cd_Sh_ofTwo 29 = .ok (.if_icmp .ne 7, 3) := by decide +kernel
theorem de_Sh_ofTwo_32 : decode cd_Sh_ofTwo 32 = .ok (.iconst 1, 1) := by decide +kernel
theorem de_Sh_ofTwo_33 : decode cd_Sh_ofTwo 33 = .ok (.goto 4, 3) := by decide +kernel
theorem de_Sh_ofTwo_36 : decode cd_Sh_ofTwo 36 = .ok (.iconst 0, 1) := by decide +kernel
theorem de_Sh_ofTwo_37 : decode cd_Sh_ofTwo 37 = .ok (.istore_n 3, 1) := by decide +kernel
theorem de_Sh_ofTwo_38 : decode cd_Sh_ofTwo 38 = .ok (.iload_n 3, 1) := by decide +kernel
theorem de_Sh_ofTwo_39 : decode cd_Sh_ofTwo 39 = .ok (.ifCond .eq 23, 3) := by decide +kernel
theorem de_Sh_ofTwo_42 : decode cd_Sh_ofTwo 42 = .ok (.new 8, 3) := by decide +kernel
theorem de_Sh_ofTwo_45 : decode cd_Sh_ofTwo 45 = .ok (.dup, 1) := by decide +kernel
theorem de_Sh_ofTwo_46 : decode cd_Sh_ofTwo 46 = .ok (.iconst 2, 1) := by decide +kernel
theorem de_Sh_ofTwo_47 : decode cd_Sh_ofTwo 47 = .ok (.iconst 1, 1) := by decide +kernel
theorem de_Sh_ofTwo_48 : decode cd_Sh_ofTwo 48 = .ok (.aload_n 1, 1) := by decide +kernel
theorem de_Sh_ofTwo_49 : decode cd_Sh_ofTwo 49 = .ok (.getfield 16, 3) := by decide +kernel
theorem de_Sh_ofTwo_52 : decode cd_Sh_ofTwo 52 = .ok (.aload_n 2, 1) := by decide +kernel
theorem de_Sh_ofTwo_53 : decode cd_Sh_ofTwo 53 = .ok (.getfield 19, 3) := by decide +kernel
theorem de_Sh_ofTwo_56 : decode cd_Sh_ofTwo 56 = .ok (.invokespecial 29, 3) := by decide +kernel
theorem de_Sh_ofTwo_59 : decode cd_Sh_ofTwo 59 = .ok (.goto 4, 3) := by decide +kernel
theorem de_Sh_ofTwo_62 : decode cd_Sh_ofTwo 62 = .ok (.aconst_null, 1) := by decide +kernel
theorem de_Sh_ofTwo_63 : decode cd_Sh_ofTwo 63 = .ok (.areturn, 1) := by decide +kernel
theorem de_Sh_ofTwo_64 : decode cd_Sh_ofTwo 64 = .ok (.aload_n 1, 1) := by decide +kernel
theorem de_Sh_ofTwo_65 : decode cd_Sh_ofTwo 65 = .ok (.getfield 13, 3) := by decide +kernel
theorem de_Sh_ofTwo_68 : decode cd_Sh_ofTwo 68 = .ok (.aload_n 2, 1) := by decide +kernel
theorem de_Sh_ofTwo_69 : decode cd_Sh_ofTwo 69 = .ok (.getfield 13, 3) := by decide +kernel
theorem de_Sh_ofTwo_72 : decode cd_Sh_ofTwo 72 = .ok (.invokestatic 53, 3) := by decide +kernel
theorem de_Sh_ofTwo_75 : decode cd_Sh_ofTwo 75 = .ok (.ifCond .eq 31, 3) := by decide +kernel
theorem de_Sh_ofTwo_78 : decode cd_Sh_ofTwo 78 = .ok (.aload_n 1, 1) := by decide +kernel
theorem de_Sh_ofTwo_79 : decode cd_Sh_ofTwo 79 = .ok (.getfield 16, 3) := by decide +kernel
theorem de_Sh_ofTwo_82 : decode cd_Sh_ofTwo 82 = .ok (.aload_n 2, 1) := by decide +kernel
theorem de_Sh_ofTwo_83 : decode cd_Sh_ofTwo 83 = .ok (.getfield 16, 3) := by decide +kernel
theorem de_Sh_ofTwo_86 : decode cd_Sh_ofTwo 86 = .ok (.invokestatic 53, 3) := by decide +kernel
theorem de_Sh_ofTwo_89 : decode cd_Sh_ofTwo 89 = .ok (.ifCond .eq 17, 3) := by decide +kernel
theorem de_Sh_ofTwo_92 : decode cd_Sh_ofTwo 92 = .ok (.aload_n 1, 1) := by decide +kernel
theorem de_Sh_ofTwo_93 : decode cd_Sh_ofTwo 93 = .ok (.getfield 19, 3) := by decide +kernel
theorem de_Sh_ofTwo_96 : decode cd_Sh_ofTwo 96 = .ok (.aload_n 2, 1) := by decide +kernel
theorem de_Sh_ofTwo_97 : decode cd_Sh_ofTwo 97 = .ok (.getfield 19, 3) := by decide +kernel
theorem de_Sh_ofTwo_100 : decode cd_Sh_ofTwo 100 = .ok (.invokestatic 53, 3) := by decide +kernel
theorem de_Sh_ofTwo_103 : decode cd_Sh_ofTwo 103 = .ok (.ifCond .ne 5, 3) := by decide +kernel
theorem de_Sh_ofTwo_106 : decode cd_Sh_ofTwo 106 = .ok (.aconst_null, 1) := by decide +kernel
theorem de_Sh_ofTwo_107 : decode cd_Sh_ofTwo 107 = .ok (.areturn, 1) := by decide +kernel
theorem de_Sh_ofTwo_108 : decode cd_Sh_ofTwo 108 = .ok (.new 8, 3) := by decide +kernel
theorem de_Sh_ofTwo_111 : decode cd_Sh_ofTwo 111 = .ok (.dup, 1) := by decide +kernel
theorem de_Sh_ofTwo_112 : decode cd_Sh_ofTwo 112 = .ok (.aload_n 1, 1) := by decide +kernel
theorem de_Sh_ofTwo_113 : decode cd_Sh_ofTwo 113 = .ok (.getfield 7, 3) := by decide +kernel
theorem de_Sh_ofTwo_116 : decode cd_Sh_ofTwo 116 = .ok (.aload_n 2, 1) := by decide +kernel
theorem de_Sh_ofTwo_117 : decode cd_Sh_ofTwo 117 = .ok (.getfield 7, 3) := by decide +kernel
theorem de_Sh_ofTwo_120 : decode cd_Sh_ofTwo 120 = .ok (.invokestatic 57, 3) := by decide +kernel
theorem de_Sh_ofTwo_123 : decode cd_Sh_ofTwo 123 = .ok (.aload_n 1, 1) := by decide +kernel
theorem de_Sh_ofTwo_124 : decode cd_Sh_ofTwo 124 = .ok (.getfield 13, 3) := by decide +kernel
theorem de_Sh_ofTwo_127 : decode cd_Sh_ofTwo 127 = .ok (.aload_n 2, 1) := by decide +kernel
theorem de_Sh_ofTwo_128 : decode cd_Sh_ofTwo 128 = .ok (.getfield 13, 3) := by decide +kernel
theorem de_Sh_ofTwo_131 : decode cd_Sh_ofTwo 131 = .ok (.invokestatic 57, 3) := by decide +kernel
theorem de_Sh_ofTwo_134 : decode cd_Sh_ofTwo 134 = .ok (.aload_n 1, 1) := by decide +kernel
theorem de_Sh_ofTwo_135 : decode cd_Sh_ofTwo 135 = .ok (.getfield 16, 3) := by decide +kernel
theorem de_Sh_ofTwo_138 : decode cd_Sh_ofTwo 138 = .ok (.aload_n 2, 1) := by decide +kernel
theorem de_Sh_ofTwo_139 : decode cd_Sh_ofTwo 139 = .ok (.getfield 16, 3) := by decide +kernel
theorem de_Sh_ofTwo_142 : decode cd_Sh_ofTwo 142 = .ok (.invokestatic 57, 3) := by decide +kernel
theorem de_Sh_ofTwo_145 : decode cd_Sh_ofTwo 145 = .ok (.aload_n 1, 1) := by decide +kernel
theorem de_Sh_ofTwo_146 : decode cd_Sh_ofTwo 146 = .ok (.getfield 19, 3) := by decide +kernel
theorem de_Sh_ofTwo_149 : decode cd_Sh_ofTwo 149 = .ok (.aload_n 2, 1) := by decide +kernel
theorem de_Sh_ofTwo_150 : decode cd_Sh_ofTwo 150 = .ok (.getfield 19, 3) := by decide +kernel
theorem de_Sh_ofTwo_153 : decode cd_Sh_ofTwo 153 = .ok (.invokestatic 57, 3) := by decide +kernel
theorem de_Sh_ofTwo_156 : decode cd_Sh_ofTwo 156 = .ok (.invokespecial 29, 3) := by decide +kernel
theorem de_Sh_ofTwo_159 : decode cd_Sh_ofTwo 159 = .ok (.areturn, 1) := by decide +kernel
def jb_Sh_ofTwo_106 (N : Nat) (M : mv_M) : Option (Option Nat × mv_M) :=
  some (none, M)
def jb_Sh_ofTwo_63 (N : Nat) (M : mv_M) (s0 : Option Nat) : Option (Option Nat × mv_M) :=
  some (s0, M)
def jb_Sh_ofTwo_37 (N : Nat) (M : mv_M) (v1 : Option Nat) (v2 : Option Nat) (s0 : Int32) : Option (Option Nat × mv_M) :=
  if s0 = 0 then (jb_Sh_ofTwo_63 N M none) else
  mj_nw M 5 5 [.int 0, .int 0, .int 0, .int 0, .int 0] fun q42 Mm42 =>
  Option.bind v1 fun a49 =>
  Option.bind (mj_getI Mm42 a49 5 2) fun x49 =>
  Option.bind v2 fun a53 =>
  Option.bind (mj_getI Mm42 a53 5 3) fun x53 =>
  mj_call (jf_Sh_init N Mm42 q42 2 1 x49 x53) fun r56 Mm56 =>
  jb_Sh_ofTwo_63 N Mm56 (some q42)
def jb_Sh_ofTwo_36 (N : Nat) (M : mv_M) (v1 : Option Nat) (v2 : Option Nat) : Option (Option Nat × mv_M) :=
  jb_Sh_ofTwo_37 N M v1 v2 0
def jb_Sh_ofTwo_0 (N : Nat) (M : mv_M) (v0 : Int32) (v1 : Option Nat) (v2 : Option Nat) : Option (Option Nat × mv_M) :=
  if v0 = 4 then (Option.bind v1 fun a6 =>
  Option.bind (mj_getI M a6 5 0) fun x6 =>
  if x6 = 2 then (Option.bind v2 fun a14 =>
  Option.bind (mj_getI M a14 5 0) fun x14 =>
  if x14 = 2 then (Option.bind (mj_getI M a6 5 3) fun x22 =>
  Option.bind (mj_getI M a14 5 2) fun x26 =>
  if x22 = x26 then (jb_Sh_ofTwo_37 N M (some a6) (some a14) 1) else
  jb_Sh_ofTwo_36 N M (some a6) (some a14)) else
  jb_Sh_ofTwo_36 N M (some a6) (some a14)) else
  jb_Sh_ofTwo_36 N M (some a6) v2) else
  Option.bind v1 fun a65 =>
  Option.bind (mj_getI M a65 5 1) fun x65 =>
  Option.bind v2 fun a69 =>
  Option.bind (mj_getI M a69 5 1) fun x69 =>
  mj_call (jf_Sh_spread N M x65 x69) fun r72 Mm72 =>
  if r72 = 0 then (jb_Sh_ofTwo_106 N Mm72) else
  Option.bind (mj_getI Mm72 a65 5 2) fun x79 =>
  Option.bind (mj_getI Mm72 a69 5 2) fun x83 =>
  mj_call (jf_Sh_spread N Mm72 x79 x83) fun r86 Mm86 =>
  if r86 = 0 then (jb_Sh_ofTwo_106 N Mm86) else
  Option.bind (mj_getI Mm86 a65 5 3) fun x93 =>
  Option.bind (mj_getI Mm86 a69 5 3) fun x97 =>
  mj_call (jf_Sh_spread N Mm86 x93 x97) fun r100 Mm100 =>
  if r100 = 0 then (jb_Sh_ofTwo_106 N Mm100) else
  mj_nw Mm100 5 5 [.int 0, .int 0, .int 0, .int 0, .int 0] fun q108 Mm108 =>
  Option.bind (mj_getI Mm108 a65 5 0) fun x113 =>
  Option.bind (mj_getI Mm108 a69 5 0) fun x117 =>
  mj_call (jf_Jm_max N Mm108 x113 x117) fun r120 Mm120 =>
  Option.bind (mj_getI Mm120 a65 5 1) fun x124 =>
  Option.bind (mj_getI Mm120 a69 5 1) fun x128 =>
  mj_call (jf_Jm_max N Mm120 x124 x128) fun r131 Mm131 =>
  Option.bind (mj_getI Mm131 a65 5 2) fun x135 =>
  Option.bind (mj_getI Mm131 a69 5 2) fun x139 =>
  mj_call (jf_Jm_max N Mm131 x135 x139) fun r142 Mm142 =>
  Option.bind (mj_getI Mm142 a65 5 3) fun x146 =>
  Option.bind (mj_getI Mm142 a69 5 3) fun x150 =>
  mj_call (jf_Jm_max N Mm142 x146 x150) fun r153 Mm153 =>
  mj_call (jf_Sh_init N Mm153 q108 r120 r131 r142 r153) fun r156 Mm156 =>
  some ((some q108), Mm156)
def jf_Sh_ofTwo (N : Nat) (M : mv_M) (v0 : Int32) (v1 : Option Nat) (v2 : Option Nat) : Option (Option Nat × mv_M) := jb_Sh_ofTwo_0 N M v0 v1 v2
set_option maxHeartbeats 4000000 in
set_option maxRecDepth 100000 in
theorem tb_Sh_ofTwo_106 (l : Launch) (D : va_G) (E : Nat → ClassId) (B : Nat) (sa : (Nat → Nat) × Nat × (Nat → Int32)) (M0 M1 : mv_M) (r : Option Nat) (N : Nat) (M : mv_M) (hJ : jb_Sh_ofTwo_106 N M = some (r, M1)) : mv_G (xg l D E B sa) kd_Sh_ofTwo M0 M1 (some (va_rf r)) M 106 [] [] := by
  unfold jb_Sh_ofTwo_106 at hJ
  refine mv_null (pc := 106) de_Sh_ofTwo_106 ?_
  exact mv_aret (pc := 107) rfl (Or.inl ⟨_, rfl⟩) de_Sh_ofTwo_107 hJ
set_option maxHeartbeats 4000000 in
set_option maxRecDepth 100000 in
theorem tb_Sh_ofTwo_63 (l : Launch) (D : va_G) (E : Nat → ClassId) (B : Nat) (sa : (Nat → Nat) × Nat × (Nat → Int32)) (M0 M1 : mv_M) (r : Option Nat) (N : Nat) (M : mv_M) (s0 : Option Nat) (hJ : jb_Sh_ofTwo_63 N M s0 = some (r, M1)) : mv_G (xg l D E B sa) kd_Sh_ofTwo M0 M1 (some (va_rf r)) M 63 [] [va_rf s0] := by
  unfold jb_Sh_ofTwo_63 at hJ
  exact mv_aret (pc := 63) rfl (Or.inl ⟨_, rfl⟩) de_Sh_ofTwo_63 hJ
set_option maxHeartbeats 4000000 in
set_option maxRecDepth 100000 in
theorem tb_Sh_ofTwo_37 (l : Launch) (D : va_G) (E : Nat → ClassId) (B : Nat) (sa : (Nat → Nat) × Nat × (Nat → Int32)) (M0 M1 : mv_M) (r : Option Nat) (N : Nat) (M : mv_M) (v1 : Option Nat) (v2 : Option Nat) (s0 : Int32) (hJ : jb_Sh_ofTwo_37 N M v1 v2 s0 = some (r, M1)) : mv_G (xg l D E B sa) kd_Sh_ofTwo M0 M1 (some (va_rf r)) M 37 [(1, va_rf v1), (2, va_rf v2)] [.int s0] := by
  unfold jb_Sh_ofTwo_37 at hJ
  refine mv_istore_n (pc := 37) (i := 3) (lv' := [(3, .int s0), (1, va_rf v1), (2, va_rf v2)]) de_Sh_ofTwo_37 rfl (Nat.le_of_ble_eq_true rfl) (by simp [List.filter, mv_cat]) ?_
  refine mv_iload_n (pc := 38) (i := 3) de_Sh_ofTwo_38 rfl 0 rfl ?_
  refine mv_if_eq (pc := 39) (tgt := 62) de_Sh_ofTwo_39 (by decide) hJ (fun hc39 h39 => ?_) (fun hc39 h39 => ?_)
  · refine mv_null (pc := 62) de_Sh_ofTwo_62 ?_
    exact mv_sub [] rfl (tb_Sh_ofTwo_63 l D E B sa M0 M1 r N M none h39)
  · refine mv_nw (pc := 42) (kc_5 l D E B sa) wt_1_172 wt_1_173 wt_1_9 (kn_5) de_Sh_ofTwo_42 h39 (fun q42 Mm42 eq42 eM42 h42 => ?_)
    refine mv_dup (pc := 45) de_Sh_ofTwo_45 rfl ?_
    refine mv_iconst (pc := 46) (v := 2) de_Sh_ofTwo_46 (by decide) ?_
    refine mv_iconst (pc := 47) (v := 1) de_Sh_ofTwo_47 (by decide) ?_
    refine mv_aload_n (pc := 48) (i := 1) de_Sh_ofTwo_48 rfl 1 rfl ?_
    obtain ⟨a49, ha, h49a⟩ := mj_bindE h42
    subst ha
    refine mv_getI (pc := 49) (f := 2) (kc_5 l D E B sa) (Nat.le_of_ble_eq_true rfl) wt_1_184 de_Sh_ofTwo_49 h49a (fun x49 e49 h49 => ?_)
    refine mv_aload_n (pc := 52) (i := 2) de_Sh_ofTwo_52 rfl 2 rfl ?_
    obtain ⟨a53, ha, h53a⟩ := mj_bindE h49
    subst ha
    refine mv_getI (pc := 53) (f := 3) (kc_5 l D E B sa) (Nat.le_of_ble_eq_true rfl) wt_1_187 de_Sh_ofTwo_53 h53a (fun x53 e53 h53 => ?_)
    obtain ⟨r56, Mm56, hz56, h56⟩ := mj_callE h53
    refine mv_callI (pc := 56) (n := 4) (av := [.int 2, .int 1, .int x49, .int x53]) (rest := [va_rf (some q42)]) de_Sh_ofTwo_56 (cm_Sh_init l D E B sa N Mm42 q42 2 1 x49 x53 _ _ hz56) wt_1_174 wt_1_175 wt_1_9 wt_1_176 rfl ⟨by decide, by decide, by decide +kernel⟩ rfl ⟨Nat.le_of_ble_eq_true rfl, Nat.le_of_ble_eq_true rfl⟩ (Nat.le_of_ble_eq_true rfl) rfl ?_
    refine mv_goto (pc := 59) (tgt := 63) de_Sh_ofTwo_59 (by decide) ?_
    exact mv_sub [] rfl (tb_Sh_ofTwo_63 l D E B sa M0 M1 r N Mm56 (some q42) h56)
set_option maxHeartbeats 4000000 in
set_option maxRecDepth 100000 in
theorem tb_Sh_ofTwo_36 (l : Launch) (D : va_G) (E : Nat → ClassId) (B : Nat) (sa : (Nat → Nat) × Nat × (Nat → Int32)) (M0 M1 : mv_M) (r : Option Nat) (N : Nat) (M : mv_M) (v1 : Option Nat) (v2 : Option Nat) (hJ : jb_Sh_ofTwo_36 N M v1 v2 = some (r, M1)) : mv_G (xg l D E B sa) kd_Sh_ofTwo M0 M1 (some (va_rf r)) M 36 [(1, va_rf v1), (2, va_rf v2)] [] := by
  unfold jb_Sh_ofTwo_36 at hJ
  refine mv_iconst (pc := 36) (v := 0) de_Sh_ofTwo_36 (by decide) ?_
  exact mv_sub [0, 1] rfl (tb_Sh_ofTwo_37 l D E B sa M0 M1 r N M v1 v2 0 hJ)
set_option maxHeartbeats 4000000 in
set_option maxRecDepth 100000 in
theorem tb_Sh_ofTwo_0 (l : Launch) (D : va_G) (E : Nat → ClassId) (B : Nat) (sa : (Nat → Nat) × Nat × (Nat → Int32)) (M0 M1 : mv_M) (r : Option Nat) (N : Nat) (M : mv_M) (v0 : Int32) (v1 : Option Nat) (v2 : Option Nat) (hJ : jb_Sh_ofTwo_0 N M v0 v1 v2 = some (r, M1)) : mv_G (xg l D E B sa) kd_Sh_ofTwo M0 M1 (some (va_rf r)) M 0 [(0, .int v0), (1, va_rf v1), (2, va_rf v2)] [] := by
  unfold jb_Sh_ofTwo_0 at hJ
  refine mv_iload_n (pc := 0) (i := 0) de_Sh_ofTwo_0 rfl 0 rfl ?_
  refine mv_iconst (pc := 1) (v := 4) de_Sh_ofTwo_1 (by decide) ?_
  refine mv_icmp_ne (pc := 2) (tgt := 64) de_Sh_ofTwo_2 (by decide) hJ (fun hc2 h2 => ?_) (fun hc2 h2 => ?_)
  · refine mv_aload_n (pc := 5) (i := 1) de_Sh_ofTwo_5 rfl 1 rfl ?_
    obtain ⟨a6, ha, h6a⟩ := mj_bindE h2
    subst ha
    refine mv_getI (pc := 6) (f := 0) (kc_5 l D E B sa) (Nat.le_of_ble_eq_true rfl) wt_1_178 de_Sh_ofTwo_6 h6a (fun x6 e6 h6 => ?_)
    refine mv_iconst (pc := 9) (v := 2) de_Sh_ofTwo_9 (by decide) ?_
    refine mv_icmp_ne (pc := 10) (tgt := 36) de_Sh_ofTwo_10 (by decide) h6 (fun hc10 h10 => ?_) (fun hc10 h10 => ?_)
    · refine mv_aload_n (pc := 13) (i := 2) de_Sh_ofTwo_13 rfl 2 rfl ?_
      obtain ⟨a14, ha, h14a⟩ := mj_bindE h10
      subst ha
      refine mv_getI (pc := 14) (f := 0) (kc_5 l D E B sa) (Nat.le_of_ble_eq_true rfl) wt_1_178 de_Sh_ofTwo_14 h14a (fun x14 e14 h14 => ?_)
      refine mv_iconst (pc := 17) (v := 2) de_Sh_ofTwo_17 (by decide) ?_
      refine mv_icmp_ne (pc := 18) (tgt := 36) de_Sh_ofTwo_18 (by decide) h14 (fun hc18 h18 => ?_) (fun hc18 h18 => ?_)
      · refine mv_aload_n (pc := 21) (i := 1) de_Sh_ofTwo_21 rfl 1 rfl ?_
        refine mv_getI (pc := 22) (f := 3) (kc_5 l D E B sa) (Nat.le_of_ble_eq_true rfl) wt_1_187 de_Sh_ofTwo_22 h18 (fun x22 e22 h22 => ?_)
        refine mv_aload_n (pc := 25) (i := 2) de_Sh_ofTwo_25 rfl 2 rfl ?_
        refine mv_getI (pc := 26) (f := 2) (kc_5 l D E B sa) (Nat.le_of_ble_eq_true rfl) wt_1_184 de_Sh_ofTwo_26 h22 (fun x26 e26 h26 => ?_)
        refine mv_icmp_ne (pc := 29) (tgt := 36) de_Sh_ofTwo_29 (by decide) h26 (fun hc29 h29 => ?_) (fun hc29 h29 => ?_)
        · refine mv_iconst (pc := 32) (v := 1) de_Sh_ofTwo_32 (by decide) ?_
          refine mv_goto (pc := 33) (tgt := 37) de_Sh_ofTwo_33 (by decide) ?_
          exact mv_sub [1, 2] rfl (tb_Sh_ofTwo_37 l D E B sa M0 M1 r N M (some a6) (some a14) 1 h29)
        · exact mv_sub [1, 2] rfl (tb_Sh_ofTwo_36 l D E B sa M0 M1 r N M (some a6) (some a14) h29)
      · exact mv_sub [1, 2] rfl (tb_Sh_ofTwo_36 l D E B sa M0 M1 r N M (some a6) (some a14) h18)
    · exact mv_sub [1, 2] rfl (tb_Sh_ofTwo_36 l D E B sa M0 M1 r N M (some a6) v2 h10)
  · refine mv_aload_n (pc := 64) (i := 1) de_Sh_ofTwo_64 rfl 1 rfl ?_
    obtain ⟨a65, ha, h65a⟩ := mj_bindE h2
    subst ha
    refine mv_getI (pc := 65) (f := 1) (kc_5 l D E B sa) (Nat.le_of_ble_eq_true rfl) wt_1_181 de_Sh_ofTwo_65 h65a (fun x65 e65 h65 => ?_)
    refine mv_aload_n (pc := 68) (i := 2) de_Sh_ofTwo_68 rfl 2 rfl ?_
    obtain ⟨a69, ha, h69a⟩ := mj_bindE h65
    subst ha
    refine mv_getI (pc := 69) (f := 1) (kc_5 l D E B sa) (Nat.le_of_ble_eq_true rfl) wt_1_181 de_Sh_ofTwo_69 h69a (fun x69 e69 h69 => ?_)
    obtain ⟨r72, Mm72, hz72, h72⟩ := mj_callE h69
    refine mv_callS (pc := 72) (n := 2) (av := [.int x65, .int x69]) (rest := []) de_Sh_ofTwo_72 (cm_Sh_spread l D E B sa N M x65 x69 _ _ hz72) wt_2_81 wt_2_82 wt_1_9 wt_2_83 ⟨by decide, by decide, by decide +kernel⟩ rfl ⟨Nat.le_of_ble_eq_true rfl, Nat.le_of_ble_eq_true rfl⟩ (Nat.le_of_ble_eq_true rfl) rfl ?_
    refine mv_if_eq (pc := 75) (tgt := 106) de_Sh_ofTwo_75 (by decide) h72 (fun hc75 h75 => ?_) (fun hc75 h75 => ?_)
    · exact mv_sub [] rfl (tb_Sh_ofTwo_106 l D E B sa M0 M1 r N Mm72 h75)
    · refine mv_aload_n (pc := 78) (i := 1) de_Sh_ofTwo_78 rfl 1 rfl ?_
      refine mv_getI (pc := 79) (f := 2) (kc_5 l D E B sa) (Nat.le_of_ble_eq_true rfl) wt_1_184 de_Sh_ofTwo_79 h75 (fun x79 e79 h79 => ?_)
      refine mv_aload_n (pc := 82) (i := 2) de_Sh_ofTwo_82 rfl 2 rfl ?_
      refine mv_getI (pc := 83) (f := 2) (kc_5 l D E B sa) (Nat.le_of_ble_eq_true rfl) wt_1_184 de_Sh_ofTwo_83 h79 (fun x83 e83 h83 => ?_)
      obtain ⟨r86, Mm86, hz86, h86⟩ := mj_callE h83
      refine mv_callS (pc := 86) (n := 2) (av := [.int x79, .int x83]) (rest := []) de_Sh_ofTwo_86 (cm_Sh_spread l D E B sa N Mm72 x79 x83 _ _ hz86) wt_2_81 wt_2_82 wt_1_9 wt_2_83 ⟨by decide, by decide, by decide +kernel⟩ rfl ⟨Nat.le_of_ble_eq_true rfl, Nat.le_of_ble_eq_true rfl⟩ (Nat.le_of_ble_eq_true rfl) rfl ?_
      refine mv_if_eq (pc := 89) (tgt := 106) de_Sh_ofTwo_89 (by decide) h86 (fun hc89 h89 => ?_) (fun hc89 h89 => ?_)
      · exact mv_sub [] rfl (tb_Sh_ofTwo_106 l D E B sa M0 M1 r N Mm86 h89)
      · refine mv_aload_n (pc := 92) (i := 1) de_Sh_ofTwo_92 rfl 1 rfl ?_
        refine mv_getI (pc := 93) (f := 3) (kc_5 l D E B sa) (Nat.le_of_ble_eq_true rfl) wt_1_187 de_Sh_ofTwo_93 h89 (fun x93 e93 h93 => ?_)
        refine mv_aload_n (pc := 96) (i := 2) de_Sh_ofTwo_96 rfl 2 rfl ?_
        refine mv_getI (pc := 97) (f := 3) (kc_5 l D E B sa) (Nat.le_of_ble_eq_true rfl) wt_1_187 de_Sh_ofTwo_97 h93 (fun x97 e97 h97 => ?_)
        obtain ⟨r100, Mm100, hz100, h100⟩ := mj_callE h97
        refine mv_callS (pc := 100) (n := 2) (av := [.int x93, .int x97]) (rest := []) de_Sh_ofTwo_100 (cm_Sh_spread l D E B sa N Mm86 x93 x97 _ _ hz100) wt_2_81 wt_2_82 wt_1_9 wt_2_83 ⟨by decide, by decide, by decide +kernel⟩ rfl ⟨Nat.le_of_ble_eq_true rfl, Nat.le_of_ble_eq_true rfl⟩ (Nat.le_of_ble_eq_true rfl) rfl ?_
        refine mv_if_ne (pc := 103) (tgt := 108) de_Sh_ofTwo_103 (by decide) h100 (fun hc103 h103 => ?_) (fun hc103 h103 => ?_)
        · exact mv_sub [] rfl (tb_Sh_ofTwo_106 l D E B sa M0 M1 r N Mm100 h103)
        · refine mv_nw (pc := 108) (kc_5 l D E B sa) wt_1_172 wt_1_173 wt_1_9 (kn_5) de_Sh_ofTwo_108 h103 (fun q108 Mm108 eq108 eM108 h108 => ?_)
          refine mv_dup (pc := 111) de_Sh_ofTwo_111 rfl ?_
          refine mv_aload_n (pc := 112) (i := 1) de_Sh_ofTwo_112 rfl 1 rfl ?_
          refine mv_getI (pc := 113) (f := 0) (kc_5 l D E B sa) (Nat.le_of_ble_eq_true rfl) wt_1_178 de_Sh_ofTwo_113 h108 (fun x113 e113 h113 => ?_)
          refine mv_aload_n (pc := 116) (i := 2) de_Sh_ofTwo_116 rfl 2 rfl ?_
          refine mv_getI (pc := 117) (f := 0) (kc_5 l D E B sa) (Nat.le_of_ble_eq_true rfl) wt_1_178 de_Sh_ofTwo_117 h113 (fun x117 e117 h117 => ?_)
          obtain ⟨r120, Mm120, hz120, h120⟩ := mj_callE h117
          refine mv_callS (pc := 120) (n := 2) (av := [.int x113, .int x117]) (rest := [va_rf (some q108), va_rf (some q108)]) de_Sh_ofTwo_120 (cm_Jm_max l D E B sa N Mm108 x113 x117 _ _ hz120) wt_2_84 wt_2_85 wt_1_12 wt_2_86 ⟨by decide, by decide, by decide +kernel⟩ rfl ⟨Nat.le_of_ble_eq_true rfl, Nat.le_of_ble_eq_true rfl⟩ (Nat.le_of_ble_eq_true rfl) rfl ?_
          refine mv_aload_n (pc := 123) (i := 1) de_Sh_ofTwo_123 rfl 1 rfl ?_
          refine mv_getI (pc := 124) (f := 1) (kc_5 l D E B sa) (Nat.le_of_ble_eq_true rfl) wt_1_181 de_Sh_ofTwo_124 h120 (fun x124 e124 h124 => ?_)
          refine mv_aload_n (pc := 127) (i := 2) de_Sh_ofTwo_127 rfl 2 rfl ?_
          refine mv_getI (pc := 128) (f := 1) (kc_5 l D E B sa) (Nat.le_of_ble_eq_true rfl) wt_1_181 de_Sh_ofTwo_128 h124 (fun x128 e128 h128 => ?_)
          obtain ⟨r131, Mm131, hz131, h131⟩ := mj_callE h128
          refine mv_callS (pc := 131) (n := 2) (av := [.int x124, .int x128]) (rest := [.int r120, va_rf (some q108), va_rf (some q108)]) de_Sh_ofTwo_131 (cm_Jm_max l D E B sa N Mm120 x124 x128 _ _ hz131) wt_2_84 wt_2_85 wt_1_12 wt_2_86 ⟨by decide, by decide, by decide +kernel⟩ rfl ⟨Nat.le_of_ble_eq_true rfl, Nat.le_of_ble_eq_true rfl⟩ (Nat.le_of_ble_eq_true rfl) rfl ?_
          refine mv_aload_n (pc := 134) (i := 1) de_Sh_ofTwo_134 rfl 1 rfl ?_
          refine mv_getI (pc := 135) (f := 2) (kc_5 l D E B sa) (Nat.le_of_ble_eq_true rfl) wt_1_184 de_Sh_ofTwo_135 h131 (fun x135 e135 h135 => ?_)
          refine mv_aload_n (pc := 138) (i := 2) de_Sh_ofTwo_138 rfl 2 rfl ?_
          refine mv_getI (pc := 139) (f := 2) (kc_5 l D E B sa) (Nat.le_of_ble_eq_true rfl) wt_1_184 de_Sh_ofTwo_139 h135 (fun x139 e139 h139 => ?_)
          obtain ⟨r142, Mm142, hz142, h142⟩ := mj_callE h139
          refine mv_callS (pc := 142) (n := 2) (av := [.int x135, .int x139]) (rest := [.int r131, .int r120, va_rf (some q108), va_rf (some q108)]) de_Sh_ofTwo_142 (cm_Jm_max l D E B sa N Mm131 x135 x139 _ _ hz142) wt_2_84 wt_2_85 wt_1_12 wt_2_86 ⟨by decide, by decide, by decide +kernel⟩ rfl ⟨Nat.le_of_ble_eq_true rfl, Nat.le_of_ble_eq_true rfl⟩ (Nat.le_of_ble_eq_true rfl) rfl ?_
          refine mv_aload_n (pc := 145) (i := 1) de_Sh_ofTwo_145 rfl 1 rfl ?_
          refine mv_getI (pc := 146) (f := 3) (kc_5 l D E B sa) (Nat.le_of_ble_eq_true rfl) wt_1_187 de_Sh_ofTwo_146 h142 (fun x146 e146 h146 => ?_)
          refine mv_aload_n (pc := 149) (i := 2) de_Sh_ofTwo_149 rfl 2 rfl ?_
          refine mv_getI (pc := 150) (f := 3) (kc_5 l D E B sa) (Nat.le_of_ble_eq_true rfl) wt_1_187 de_Sh_ofTwo_150 h146 (fun x150 e150 h150 => ?_)
          obtain ⟨r153, Mm153, hz153, h153⟩ := mj_callE h150
          refine mv_callS (pc := 153) (n := 2) (av := [.int x146, .int x150]) (rest := [.int r142, .int r131, .int r120, va_rf (some q108), va_rf (some q108)]) de_Sh_ofTwo_153 (cm_Jm_max l D E B sa N Mm142 x146 x150 _ _ hz153) wt_2_84 wt_2_85 wt_1_12 wt_2_86 ⟨by decide, by decide, by decide +kernel⟩ rfl ⟨Nat.le_of_ble_eq_true rfl, Nat.le_of_ble_eq_true rfl⟩ (Nat.le_of_ble_eq_true rfl) rfl ?_
          obtain ⟨r156, Mm156, hz156, h156⟩ := mj_callE h153
          refine mv_callI (pc := 156) (n := 4) (av := [.int r120, .int r131, .int r142, .int r153]) (rest := [va_rf (some q108)]) de_Sh_ofTwo_156 (cm_Sh_init l D E B sa N Mm153 q108 r120 r131 r142 r153 _ _ hz156) wt_1_174 wt_1_175 wt_1_9 wt_1_176 rfl ⟨by decide, by decide, by decide +kernel⟩ rfl ⟨Nat.le_of_ble_eq_true rfl, Nat.le_of_ble_eq_true rfl⟩ (Nat.le_of_ble_eq_true rfl) rfl ?_
          exact mv_aret (pc := 159) rfl (Or.inl ⟨_, rfl⟩) de_Sh_ofTwo_159 h156
theorem cm_Sh_ofTwo (l : Launch) (D : va_G) (E : Nat → ClassId) (B : Nat) (sa : (Nat → Nat) × Nat × (Nat → Int32)) (N : Nat) (M : mv_M) (v0 : Int32) (v1 : Option Nat) (v2 : Option Nat) (r : Option Nat) (M1 : mv_M) (hJ : jf_Sh_ofTwo N M v0 v1 v2 = some (r, M1)) : mv_Met (xg l D E B sa) yn_Sh_ofTwo cd_Sh_ofTwo 4 (some (.object "PlainLearner$Shape")) 2 44 [.int v0, va_rf v1, va_rf v2] M (some (va_rf r)) M1 := by
  cases v1 <;> cases v2 <;> exact mv_enter (by decide) (Nat.le_of_ble_eq_true rfl) (mv_sub [0, 1, 2] rfl (tb_Sh_ofTwo_0 l D E B sa M M1 r N M _ _ _ hJ))
/-! ===== PlainLearner$Shape.placeOf(I)I ===== -/
abbrev kd_Sh_placeOf : mv_Kd := (cd_Sh_placeOf, 2, "PlainLearner$Shape", "placeOf", (some .int), 0, 0)
theorem de_Sh_placeOf_0 : decode cd_Sh_placeOf 0 = .ok (.iconst 3, 1) := by decide +kernel
theorem de_Sh_placeOf_1 : decode cd_Sh_placeOf 1 = .ok (.aload_n 0, 1) := by decide +kernel
theorem de_Sh_placeOf_2 : decode cd_Sh_placeOf 2 = .ok (.getfield 7, 3) := by decide +kernel
theorem de_Sh_placeOf_5 : decode cd_Sh_placeOf 5 = .ok (.isub, 1) := by decide +kernel
theorem de_Sh_placeOf_6 : decode cd_Sh_placeOf 6 = .ok (.iload_n 1, 1) := by decide +kernel
theorem de_Sh_placeOf_7 : decode cd_Sh_placeOf 7 = .ok (.iadd, 1) := by decide +kernel
theorem de_Sh_placeOf_8 : decode cd_Sh_placeOf 8 = .ok (.ireturn, 1) := by decide +kernel
def jb_Sh_placeOf_0 (N : Nat) (M : mv_M) (v0 : Nat) (v1 : Int32) : Option (Int32 × mv_M) :=
  Option.bind (mj_getI M v0 5 0) fun x2 =>
  some (((3 - x2) + v1), M)
def jf_Sh_placeOf (N : Nat) (M : mv_M) (v0 : Nat) (v1 : Int32) : Option (Int32 × mv_M) := jb_Sh_placeOf_0 N M v0 v1
set_option maxHeartbeats 4000000 in
set_option maxRecDepth 100000 in
theorem tb_Sh_placeOf_0 (l : Launch) (D : va_G) (E : Nat → ClassId) (B : Nat) (sa : (Nat → Nat) × Nat × (Nat → Int32)) (M0 M1 : mv_M) (r : Int32) (N : Nat) (M : mv_M) (v0 : Nat) (v1 : Int32) (hJ : jb_Sh_placeOf_0 N M v0 v1 = some (r, M1)) : mv_G (xg l D E B sa) kd_Sh_placeOf M0 M1 (some (.int r)) M 0 [(0, va_rf (some v0)), (1, .int v1)] [] := by
  unfold jb_Sh_placeOf_0 at hJ
  refine mv_iconst (pc := 0) (v := 3) de_Sh_placeOf_0 (by decide) ?_
  refine mv_aload_n (pc := 1) (i := 0) de_Sh_placeOf_1 rfl 0 rfl ?_
  refine mv_getI (pc := 2) (f := 0) (kc_5 l D E B sa) (Nat.le_of_ble_eq_true rfl) wt_1_178 de_Sh_placeOf_2 hJ (fun x2 e2 h2 => ?_)
  refine mv_isub (pc := 5) de_Sh_placeOf_5 ?_
  refine mv_iload_n (pc := 6) (i := 1) de_Sh_placeOf_6 rfl 1 rfl ?_
  refine mv_iadd (pc := 7) de_Sh_placeOf_7 ?_
  exact mv_iret (pc := 8) rfl de_Sh_placeOf_8 h2
theorem cm_Sh_placeOf (l : Launch) (D : va_G) (E : Nat → ClassId) (B : Nat) (sa : (Nat → Nat) × Nat × (Nat → Int32)) (N : Nat) (M : mv_M) (v0 : Nat) (v1 : Int32) (r : Int32) (M1 : mv_M) (hJ : jf_Sh_placeOf N M v0 v1 = some (r, M1)) : mv_Met (xg l D E B sa) yn_Sh_placeOf cd_Sh_placeOf 2 (some .int) 0 0 [va_rf (some v0), .int v1] M (some (.int r)) M1 :=
  mv_enter (by decide) (Nat.le_of_ble_eq_true rfl) (mv_sub (lv := [(0, va_rf (some v0)), (1, .int v1)]) [0, 1] rfl (tb_Sh_placeOf_0 l D E B sa M M1 r N M v0 v1 hJ))
/-! ===== PlainLearner$Shape.without(I)LPlainLearner$Shape; ===== -/
abbrev kd_Sh_without : mv_Kd := (cd_Sh_without, 2, "PlainLearner$Shape", "without", (some (.object "PlainLearner$Shape")), 2, 44)
theorem de_Sh_without_0 : decode cd_Sh_without 0 = .ok (.new 8, 3) := by decide +kernel
theorem de_Sh_without_3 : decode cd_Sh_without 3 = .ok (.dup, 1) := by decide +kernel
theorem de_Sh_without_4 : decode cd_Sh_without 4 = .ok (.aload_n 0, 1) := by decide +kernel
theorem de_Sh_without_5 : decode cd_Sh_without 5 = .ok (.getfield 7, 3) := by decide +kernel
theorem de_Sh_without_8 : decode cd_Sh_without 8 = .ok (.iconst 1, 1) := by decide +kernel
theorem de_Sh_without_9 : decode cd_Sh_without 9 = .ok (.isub, 1) := by decide +kernel
theorem de_Sh_without_10 : decode cd_Sh_without 10 = .ok (.iconst 1, 1) := by decide +kernel
theorem de_Sh_without_11 : decode cd_Sh_without 11 = .ok (.iload_n 1, 1) := by decide +kernel
theorem de_Sh_without_12 : decode cd_Sh_without 12 = .ok (.ifCond .ne 10, 3) := by decide +kernel
theorem de_Sh_without_15 : decode cd_Sh_without 15 = .ok (.aload_n 0, 1) := by decide +kernel
theorem de_Sh_without_16 : decode cd_Sh_without 16 = .ok (.getfield 16, 3) := by decide +kernel
theorem de_Sh_without_19 : decode cd_Sh_without 19 = .ok (.goto 7, 3) := by decide +kernel
theorem de_Sh_without_22 : decode cd_Sh_without 22 = .ok (.aload_n 0, 1) := by decide +kernel
theorem de_Sh_without_23 : decode cd_Sh_without 23 = .ok (.getfield 13, 3) := by decide +kernel
theorem de_Sh_without_26 : decode cd_Sh_without 26 = .ok (.iload_n 1, 1) := by decide +kernel
theorem de_Sh_without_27 : decode cd_Sh_without 27 = .ok (.iconst 2, 1) := by decide +kernel
theorem de_Sh_without_28 : decode cd_Sh_without 28 = .ok (.if_icmp .ne 10, 3) := by decide +kernel
theorem de_Sh_without_31 : decode cd_Sh_without 31 = .ok (.aload_n 0, 1) := by decide +kernel
theorem de_Sh_without_32 : decode cd_Sh_without 32 = .ok (.getfield 16, 3) := by decide +kernel
theorem de_Sh_without_35 : decode cd_Sh_without 35 = .ok (.goto 7, 3) := by decide +kernel
theorem de_Sh_without_38 : decode cd_Sh_without 38 = .ok (.aload_n 0, 1) := by decide +kernel
theorem de_Sh_without_39 : decode cd_Sh_without 39 = .ok (.getfield 19, 3) := by decide +kernel
theorem de_Sh_without_42 : decode cd_Sh_without 42 = .ok (.invokespecial 29, 3) := by decide +kernel
theorem de_Sh_without_45 : decode cd_Sh_without 45 = .ok (.areturn, 1) := by decide +kernel
def jb_Sh_without_42 (N : Nat) (M : mv_M) (s0 : Nat) (s1 : Nat) (s2 : Int32) (s3 : Int32) (s4 : Int32) (s5 : Int32) : Option (Option Nat × mv_M) :=
  mj_call (jf_Sh_init N M s1 s2 s3 s4 s5) fun r42 Mm42 =>
  some ((some s0), Mm42)
def jb_Sh_without_26 (N : Nat) (M : mv_M) (v0 : Nat) (v1 : Int32) (s0 : Nat) (s1 : Nat) (s2 : Int32) (s3 : Int32) (s4 : Int32) : Option (Option Nat × mv_M) :=
  if v1 = 2 then (Option.bind (mj_getI M v0 5 2) fun x32 =>
  jb_Sh_without_42 N M s0 s1 s2 s3 s4 x32) else
  Option.bind (mj_getI M v0 5 3) fun x39 =>
  jb_Sh_without_42 N M s0 s1 s2 s3 s4 x39
def jb_Sh_without_0 (N : Nat) (M : mv_M) (v0 : Nat) (v1 : Int32) : Option (Option Nat × mv_M) :=
  mj_nw M 5 5 [.int 0, .int 0, .int 0, .int 0, .int 0] fun q0 Mm0 =>
  Option.bind (mj_getI Mm0 v0 5 0) fun x5 =>
  if v1 = 0 then (Option.bind (mj_getI Mm0 v0 5 2) fun x16 =>
  jb_Sh_without_26 N Mm0 v0 v1 q0 q0 (x5 - 1) 1 x16) else
  Option.bind (mj_getI Mm0 v0 5 1) fun x23 =>
  jb_Sh_without_26 N Mm0 v0 v1 q0 q0 (x5 - 1) 1 x23
def jf_Sh_without (N : Nat) (M : mv_M) (v0 : Nat) (v1 : Int32) : Option (Option Nat × mv_M) := jb_Sh_without_0 N M v0 v1
set_option maxHeartbeats 4000000 in
set_option maxRecDepth 100000 in
theorem tb_Sh_without_42 (l : Launch) (D : va_G) (E : Nat → ClassId) (B : Nat) (sa : (Nat → Nat) × Nat × (Nat → Int32)) (M0 M1 : mv_M) (r : Option Nat) (N : Nat) (M : mv_M) (s0 : Nat) (s1 : Nat) (s2 : Int32) (s3 : Int32) (s4 : Int32) (s5 : Int32) (hJ : jb_Sh_without_42 N M s0 s1 s2 s3 s4 s5 = some (r, M1)) : mv_G (xg l D E B sa) kd_Sh_without M0 M1 (some (va_rf r)) M 42 [] [.int s5, .int s4, .int s3, .int s2, va_rf (some s1), va_rf (some s0)] := by
  unfold jb_Sh_without_42 at hJ
  obtain ⟨r42, Mm42, hz42, h42⟩ := mj_callE hJ
  refine mv_callI (pc := 42) (n := 4) (av := [.int s2, .int s3, .int s4, .int s5]) (rest := [va_rf (some s0)]) de_Sh_without_42 (cm_Sh_init l D E B sa N M s1 s2 s3 s4 s5 _ _ hz42) wt_1_174 wt_1_175 wt_1_9 wt_1_176 rfl ⟨by decide, by decide, by decide +kernel⟩ rfl ⟨Nat.le_of_ble_eq_true rfl, Nat.le_of_ble_eq_true rfl⟩ (Nat.le_of_ble_eq_true rfl) rfl ?_
  exact mv_aret (pc := 45) rfl (Or.inl ⟨_, rfl⟩) de_Sh_without_45 h42
set_option maxHeartbeats 4000000 in
set_option maxRecDepth 100000 in
theorem tb_Sh_without_26 (l : Launch) (D : va_G) (E : Nat → ClassId) (B : Nat) (sa : (Nat → Nat) × Nat × (Nat → Int32)) (M0 M1 : mv_M) (r : Option Nat) (N : Nat) (M : mv_M) (v0 : Nat) (v1 : Int32) (s0 : Nat) (s1 : Nat) (s2 : Int32) (s3 : Int32) (s4 : Int32) (hJ : jb_Sh_without_26 N M v0 v1 s0 s1 s2 s3 s4 = some (r, M1)) : mv_G (xg l D E B sa) kd_Sh_without M0 M1 (some (va_rf r)) M 26 [(0, va_rf (some v0)), (1, .int v1)] [.int s4, .int s3, .int s2, va_rf (some s1), va_rf (some s0)] := by
  unfold jb_Sh_without_26 at hJ
  refine mv_iload_n (pc := 26) (i := 1) de_Sh_without_26 rfl 1 rfl ?_
  refine mv_iconst (pc := 27) (v := 2) de_Sh_without_27 (by decide) ?_
  refine mv_icmp_ne (pc := 28) (tgt := 38) de_Sh_without_28 (by decide) hJ (fun hc28 h28 => ?_) (fun hc28 h28 => ?_)
  · refine mv_aload_n (pc := 31) (i := 0) de_Sh_without_31 rfl 0 rfl ?_
    refine mv_getI (pc := 32) (f := 2) (kc_5 l D E B sa) (Nat.le_of_ble_eq_true rfl) wt_1_184 de_Sh_without_32 h28 (fun x32 e32 h32 => ?_)
    refine mv_goto (pc := 35) (tgt := 42) de_Sh_without_35 (by decide) ?_
    exact mv_sub [] rfl (tb_Sh_without_42 l D E B sa M0 M1 r N M s0 s1 s2 s3 s4 x32 h32)
  · refine mv_aload_n (pc := 38) (i := 0) de_Sh_without_38 rfl 0 rfl ?_
    refine mv_getI (pc := 39) (f := 3) (kc_5 l D E B sa) (Nat.le_of_ble_eq_true rfl) wt_1_187 de_Sh_without_39 h28 (fun x39 e39 h39 => ?_)
    exact mv_sub [] rfl (tb_Sh_without_42 l D E B sa M0 M1 r N M s0 s1 s2 s3 s4 x39 h39)
set_option maxHeartbeats 4000000 in
set_option maxRecDepth 100000 in
theorem tb_Sh_without_0 (l : Launch) (D : va_G) (E : Nat → ClassId) (B : Nat) (sa : (Nat → Nat) × Nat × (Nat → Int32)) (M0 M1 : mv_M) (r : Option Nat) (N : Nat) (M : mv_M) (v0 : Nat) (v1 : Int32) (hJ : jb_Sh_without_0 N M v0 v1 = some (r, M1)) : mv_G (xg l D E B sa) kd_Sh_without M0 M1 (some (va_rf r)) M 0 [(0, va_rf (some v0)), (1, .int v1)] [] := by
  unfold jb_Sh_without_0 at hJ
  refine mv_nw (pc := 0) (kc_5 l D E B sa) wt_1_172 wt_1_173 wt_1_9 (kn_5) de_Sh_without_0 hJ (fun q0 Mm0 eq0 eM0 h0 => ?_)
  refine mv_dup (pc := 3) de_Sh_without_3 rfl ?_
  refine mv_aload_n (pc := 4) (i := 0) de_Sh_without_4 rfl 0 rfl ?_
  refine mv_getI (pc := 5) (f := 0) (kc_5 l D E B sa) (Nat.le_of_ble_eq_true rfl) wt_1_178 de_Sh_without_5 h0 (fun x5 e5 h5 => ?_)
  refine mv_iconst (pc := 8) (v := 1) de_Sh_without_8 (by decide) ?_
  refine mv_isub (pc := 9) de_Sh_without_9 ?_
  refine mv_iconst (pc := 10) (v := 1) de_Sh_without_10 (by decide) ?_
  refine mv_iload_n (pc := 11) (i := 1) de_Sh_without_11 rfl 1 rfl ?_
  refine mv_if_ne (pc := 12) (tgt := 22) de_Sh_without_12 (by decide) h5 (fun hc12 h12 => ?_) (fun hc12 h12 => ?_)
  · refine mv_aload_n (pc := 15) (i := 0) de_Sh_without_15 rfl 0 rfl ?_
    refine mv_getI (pc := 16) (f := 2) (kc_5 l D E B sa) (Nat.le_of_ble_eq_true rfl) wt_1_184 de_Sh_without_16 h12 (fun x16 e16 h16 => ?_)
    refine mv_goto (pc := 19) (tgt := 26) de_Sh_without_19 (by decide) ?_
    exact mv_sub [0, 1] rfl (tb_Sh_without_26 l D E B sa M0 M1 r N Mm0 v0 v1 q0 q0 (x5 - 1) 1 x16 h16)
  · refine mv_aload_n (pc := 22) (i := 0) de_Sh_without_22 rfl 0 rfl ?_
    refine mv_getI (pc := 23) (f := 1) (kc_5 l D E B sa) (Nat.le_of_ble_eq_true rfl) wt_1_181 de_Sh_without_23 h12 (fun x23 e23 h23 => ?_)
    exact mv_sub [0, 1] rfl (tb_Sh_without_26 l D E B sa M0 M1 r N Mm0 v0 v1 q0 q0 (x5 - 1) 1 x23 h23)
theorem cm_Sh_without (l : Launch) (D : va_G) (E : Nat → ClassId) (B : Nat) (sa : (Nat → Nat) × Nat × (Nat → Int32)) (N : Nat) (M : mv_M) (v0 : Nat) (v1 : Int32) (r : Option Nat) (M1 : mv_M) (hJ : jf_Sh_without N M v0 v1 = some (r, M1)) : mv_Met (xg l D E B sa) yn_Sh_without cd_Sh_without 2 (some (.object "PlainLearner$Shape")) 2 44 [va_rf (some v0), .int v1] M (some (va_rf r)) M1 :=
  mv_enter (by decide) (Nat.le_of_ble_eq_true rfl) (mv_sub (lv := [(0, va_rf (some v0)), (1, .int v1)]) [0, 1] rfl (tb_Sh_without_0 l D E B sa M M1 r N M v0 v1 hJ))
/-! ===== PlainLearner$Shape.lengthAt(I)I ===== -/
abbrev kd_Sh_lengthAt : mv_Kd := (cd_Sh_lengthAt, 2, "PlainLearner$Shape", "lengthAt", (some .int), 0, 0)
theorem de_Sh_lengthAt_0 : decode cd_Sh_lengthAt 0 = .ok (.iload_n 1, 1) := by decide +kernel
theorem de_Sh_lengthAt_1 : decode cd_Sh_lengthAt 1 = .ok (.ifCond .ne 10, 3) := by decide +kernel
theorem de_Sh_lengthAt_4 : decode cd_Sh_lengthAt 4 = .ok (.aload_n 0, 1) := by decide +kernel
theorem de_Sh_lengthAt_5 : decode cd_Sh_lengthAt 5 = .ok (.getfield 13, 3) := by decide +kernel
theorem de_Sh_lengthAt_8 : decode cd_Sh_lengthAt 8 = .ok (.goto 19, 3) := by decide +kernel
theorem de_Sh_lengthAt_11 : decode cd_Sh_lengthAt 11 = .ok (.iload_n 1, 1) := by decide +kernel
theorem de_Sh_lengthAt_12 : decode cd_Sh_lengthAt 12 = .ok (.iconst 1, 1) := by decide +kernel
theorem de_Sh_lengthAt_13 : decode cd_Sh_lengthAt 13 = .ok (.if_icmp .ne 10, 3) := by decide +kernel
theorem de_Sh_lengthAt_16 : decode cd_Sh_lengthAt 16 = .ok (.aload_n 0, 1) := by decide +kernel
theorem de_Sh_lengthAt_17 : decode cd_Sh_lengthAt 17 = .ok (.getfield 16, 3) := by decide +kernel
theorem de_Sh_lengthAt_20 : decode cd_Sh_lengthAt 20 = .ok (.goto 7, 3) := by decide +kernel
theorem de_Sh_lengthAt_23 : decode cd_Sh_lengthAt 23 = .ok (.aload_n 0, 1) := by decide +kernel
theorem de_Sh_lengthAt_24 : decode cd_Sh_lengthAt 24 = .ok (.getfield 19, 3) := by decide +kernel
theorem de_Sh_lengthAt_27 : decode cd_Sh_lengthAt 27 = .ok (.ireturn, 1) := by decide +kernel
def jb_Sh_lengthAt_27 (N : Nat) (M : mv_M) (s0 : Int32) : Option (Int32 × mv_M) :=
  some (s0, M)
def jb_Sh_lengthAt_0 (N : Nat) (M : mv_M) (v0 : Nat) (v1 : Int32) : Option (Int32 × mv_M) :=
  if v1 = 0 then (Option.bind (mj_getI M v0 5 1) fun x5 =>
  jb_Sh_lengthAt_27 N M x5) else
  if v1 = 1 then (Option.bind (mj_getI M v0 5 2) fun x17 =>
  jb_Sh_lengthAt_27 N M x17) else
  Option.bind (mj_getI M v0 5 3) fun x24 =>
  jb_Sh_lengthAt_27 N M x24
def jf_Sh_lengthAt (N : Nat) (M : mv_M) (v0 : Nat) (v1 : Int32) : Option (Int32 × mv_M) := jb_Sh_lengthAt_0 N M v0 v1
set_option maxHeartbeats 4000000 in
set_option maxRecDepth 100000 in
theorem tb_Sh_lengthAt_27 (l : Launch) (D : va_G) (E : Nat → ClassId) (B : Nat) (sa : (Nat → Nat) × Nat × (Nat → Int32)) (M0 M1 : mv_M) (r : Int32) (N : Nat) (M : mv_M) (s0 : Int32) (hJ : jb_Sh_lengthAt_27 N M s0 = some (r, M1)) : mv_G (xg l D E B sa) kd_Sh_lengthAt M0 M1 (some (.int r)) M 27 [] [.int s0] := by
  unfold jb_Sh_lengthAt_27 at hJ
  exact mv_iret (pc := 27) rfl de_Sh_lengthAt_27 hJ
set_option maxHeartbeats 4000000 in
set_option maxRecDepth 100000 in
theorem tb_Sh_lengthAt_0 (l : Launch) (D : va_G) (E : Nat → ClassId) (B : Nat) (sa : (Nat → Nat) × Nat × (Nat → Int32)) (M0 M1 : mv_M) (r : Int32) (N : Nat) (M : mv_M) (v0 : Nat) (v1 : Int32) (hJ : jb_Sh_lengthAt_0 N M v0 v1 = some (r, M1)) : mv_G (xg l D E B sa) kd_Sh_lengthAt M0 M1 (some (.int r)) M 0 [(0, va_rf (some v0)), (1, .int v1)] [] := by
  unfold jb_Sh_lengthAt_0 at hJ
  refine mv_iload_n (pc := 0) (i := 1) de_Sh_lengthAt_0 rfl 1 rfl ?_
  refine mv_if_ne (pc := 1) (tgt := 11) de_Sh_lengthAt_1 (by decide) hJ (fun hc1 h1 => ?_) (fun hc1 h1 => ?_)
  · refine mv_aload_n (pc := 4) (i := 0) de_Sh_lengthAt_4 rfl 0 rfl ?_
    refine mv_getI (pc := 5) (f := 1) (kc_5 l D E B sa) (Nat.le_of_ble_eq_true rfl) wt_1_181 de_Sh_lengthAt_5 h1 (fun x5 e5 h5 => ?_)
    refine mv_goto (pc := 8) (tgt := 27) de_Sh_lengthAt_8 (by decide) ?_
    exact mv_sub [] rfl (tb_Sh_lengthAt_27 l D E B sa M0 M1 r N M x5 h5)
  · refine mv_iload_n (pc := 11) (i := 1) de_Sh_lengthAt_11 rfl 1 rfl ?_
    refine mv_iconst (pc := 12) (v := 1) de_Sh_lengthAt_12 (by decide) ?_
    refine mv_icmp_ne (pc := 13) (tgt := 23) de_Sh_lengthAt_13 (by decide) h1 (fun hc13 h13 => ?_) (fun hc13 h13 => ?_)
    · refine mv_aload_n (pc := 16) (i := 0) de_Sh_lengthAt_16 rfl 0 rfl ?_
      refine mv_getI (pc := 17) (f := 2) (kc_5 l D E B sa) (Nat.le_of_ble_eq_true rfl) wt_1_184 de_Sh_lengthAt_17 h13 (fun x17 e17 h17 => ?_)
      refine mv_goto (pc := 20) (tgt := 27) de_Sh_lengthAt_20 (by decide) ?_
      exact mv_sub [] rfl (tb_Sh_lengthAt_27 l D E B sa M0 M1 r N M x17 h17)
    · refine mv_aload_n (pc := 23) (i := 0) de_Sh_lengthAt_23 rfl 0 rfl ?_
      refine mv_getI (pc := 24) (f := 3) (kc_5 l D E B sa) (Nat.le_of_ble_eq_true rfl) wt_1_187 de_Sh_lengthAt_24 h13 (fun x24 e24 h24 => ?_)
      exact mv_sub [] rfl (tb_Sh_lengthAt_27 l D E B sa M0 M1 r N M x24 h24)
theorem cm_Sh_lengthAt (l : Launch) (D : va_G) (E : Nat → ClassId) (B : Nat) (sa : (Nat → Nat) × Nat × (Nat → Int32)) (N : Nat) (M : mv_M) (v0 : Nat) (v1 : Int32) (r : Int32) (M1 : mv_M) (hJ : jf_Sh_lengthAt N M v0 v1 = some (r, M1)) : mv_Met (xg l D E B sa) yn_Sh_lengthAt cd_Sh_lengthAt 2 (some .int) 0 0 [va_rf (some v0), .int v1] M (some (.int r)) M1 :=
  mv_enter (by decide) (Nat.le_of_ble_eq_true rfl) (mv_sub (lv := [(0, va_rf (some v0)), (1, .int v1)]) [0, 1] rfl (tb_Sh_lengthAt_0 l D E B sa M M1 r N M v0 v1 hJ))
/-! ===== PlainLearner$Shape.firstLength()I ===== -/
abbrev kd_Sh_firstLength : mv_Kd := (cd_Sh_firstLength, 1, "PlainLearner$Shape", "firstLength", (some .int), 1, 21)
theorem de_Sh_firstLength_0 : decode cd_Sh_firstLength 0 = .ok (.aload_n 0, 1) := by decide +kernel
theorem de_Sh_firstLength_1 : decode cd_Sh_firstLength 1 = .ok (.getfield 7, 3) := by decide +kernel
theorem de_Sh_firstLength_4 : decode cd_Sh_firstLength 4 = .ok (.ifCond .ne 7, 3) := by decide +kernel
theorem de_Sh_firstLength_7 : decode cd_Sh_firstLength 7 = .ok (.iconst 0, 1) := by decide +kernel
theorem de_Sh_firstLength_8 : decode cd_Sh_firstLength 8 = .ok (.goto 12, 3) := by decide +kernel
theorem de_Sh_firstLength_11 : decode cd_Sh_firstLength 11 = .ok (.aload_n 0, 1) := by decide +kernel
theorem de_Sh_firstLength_12 : decode cd_Sh_firstLength 12 = .ok (.aload_n 0, 1) := by decide +kernel
theorem de_Sh_firstLength_13 : decode cd_Sh_firstLength 13 = .ok (.iconst 0, 1) := by decide +kernel
theorem de_Sh_firstLength_14 : decode cd_Sh_firstLength 14 = .ok (.invokevirtual 41, 3) := by decide +kernel
theorem de_Sh_firstLength_17 : decode cd_Sh_firstLength 17 = .ok (.invokevirtual 63, 3) := by decide +kernel
theorem de_Sh_firstLength_20 : decode cd_Sh_firstLength 20 = .ok (.ireturn, 1) := by decide +kernel
def jb_Sh_firstLength_20 (N : Nat) (M : mv_M) (s0 : Int32) : Option (Int32 × mv_M) :=
  some (s0, M)
def jb_Sh_firstLength_0 (N : Nat) (M : mv_M) (v0 : Nat) : Option (Int32 × mv_M) :=
  Option.bind (mj_getI M v0 5 0) fun x1 =>
  if x1 = 0 then (jb_Sh_firstLength_20 N M 0) else
  mj_ob M v0 5 <|
  mj_call (jf_Sh_placeOf N M v0 0) fun r14 Mm14 =>
  mj_ob Mm14 v0 5 <|
  mj_call (jf_Sh_lengthAt N Mm14 v0 r14) fun r17 Mm17 =>
  jb_Sh_firstLength_20 N Mm17 r17
def jf_Sh_firstLength (N : Nat) (M : mv_M) (v0 : Nat) : Option (Int32 × mv_M) := jb_Sh_firstLength_0 N M v0
set_option maxHeartbeats 4000000 in
set_option maxRecDepth 100000 in
theorem tb_Sh_firstLength_20 (l : Launch) (D : va_G) (E : Nat → ClassId) (B : Nat) (sa : (Nat → Nat) × Nat × (Nat → Int32)) (M0 M1 : mv_M) (r : Int32) (N : Nat) (M : mv_M) (s0 : Int32) (hJ : jb_Sh_firstLength_20 N M s0 = some (r, M1)) : mv_G (xg l D E B sa) kd_Sh_firstLength M0 M1 (some (.int r)) M 20 [] [.int s0] := by
  unfold jb_Sh_firstLength_20 at hJ
  exact mv_iret (pc := 20) rfl de_Sh_firstLength_20 hJ
set_option maxHeartbeats 4000000 in
set_option maxRecDepth 100000 in
theorem tb_Sh_firstLength_0 (l : Launch) (D : va_G) (E : Nat → ClassId) (B : Nat) (sa : (Nat → Nat) × Nat × (Nat → Int32)) (M0 M1 : mv_M) (r : Int32) (N : Nat) (M : mv_M) (v0 : Nat) (hJ : jb_Sh_firstLength_0 N M v0 = some (r, M1)) : mv_G (xg l D E B sa) kd_Sh_firstLength M0 M1 (some (.int r)) M 0 [(0, va_rf (some v0))] [] := by
  unfold jb_Sh_firstLength_0 at hJ
  refine mv_aload_n (pc := 0) (i := 0) de_Sh_firstLength_0 rfl 0 rfl ?_
  refine mv_getI (pc := 1) (f := 0) (kc_5 l D E B sa) (Nat.le_of_ble_eq_true rfl) wt_1_178 de_Sh_firstLength_1 hJ (fun x1 e1 h1 => ?_)
  refine mv_if_ne (pc := 4) (tgt := 11) de_Sh_firstLength_4 (by decide) h1 (fun hc4 h4 => ?_) (fun hc4 h4 => ?_)
  · refine mv_iconst (pc := 7) (v := 0) de_Sh_firstLength_7 (by decide) ?_
    refine mv_goto (pc := 8) (tgt := 20) de_Sh_firstLength_8 (by decide) ?_
    exact mv_sub [] rfl (tb_Sh_firstLength_20 l D E B sa M0 M1 r N M 0 h4)
  · refine mv_aload_n (pc := 11) (i := 0) de_Sh_firstLength_11 rfl 0 rfl ?_
    refine mv_aload_n (pc := 12) (i := 0) de_Sh_firstLength_12 rfl 0 rfl ?_
    refine mv_iconst (pc := 13) (v := 0) de_Sh_firstLength_13 (by decide) ?_
    obtain ⟨hi14, h14o⟩ := mj_obE h4
    obtain ⟨r14, Mm14, hz14, h14⟩ := mj_callE h14o
    refine mv_callV (pc := 14) (n := 1) (av := [.int 0]) (rest := [va_rf (some v0)]) de_Sh_firstLength_14 (kc_5 l D E B sa) hi14 (cm_Sh_placeOf l D E B sa N M v0 0 _ _ hz14) wt_2_87 wt_2_88 wt_2_89 wt_1_9 wt_2_90 ⟨by decide, by decide, by decide +kernel⟩ rfl ⟨Nat.le_of_ble_eq_true rfl, Nat.le_of_ble_eq_true rfl⟩ (Nat.le_of_ble_eq_true rfl) rfl ?_
    obtain ⟨hi17, h17o⟩ := mj_obE h14
    obtain ⟨r17, Mm17, hz17, h17⟩ := mj_callE h17o
    refine mv_callV (pc := 17) (n := 1) (av := [.int r14]) (rest := []) de_Sh_firstLength_17 (kc_5 l D E B sa) hi17 (cm_Sh_lengthAt l D E B sa N Mm14 v0 r14 _ _ hz17) wt_2_99 wt_2_100 wt_2_101 wt_1_9 wt_2_102 ⟨by decide, by decide, by decide +kernel⟩ rfl ⟨Nat.le_of_ble_eq_true rfl, Nat.le_of_ble_eq_true rfl⟩ (Nat.le_of_ble_eq_true rfl) rfl ?_
    exact mv_sub [] rfl (tb_Sh_firstLength_20 l D E B sa M0 M1 r N Mm17 r17 h17)
theorem cm_Sh_firstLength (l : Launch) (D : va_G) (E : Nat → ClassId) (B : Nat) (sa : (Nat → Nat) × Nat × (Nat → Int32)) (N : Nat) (M : mv_M) (v0 : Nat) (r : Int32) (M1 : mv_M) (hJ : jf_Sh_firstLength N M v0 = some (r, M1)) : mv_Met (xg l D E B sa) yn_Sh_firstLength cd_Sh_firstLength 1 (some .int) 1 21 [va_rf (some v0)] M (some (.int r)) M1 :=
  mv_enter (by decide) (Nat.le_of_ble_eq_true rfl) (mv_sub (lv := [(0, va_rf (some v0))]) [0] rfl (tb_Sh_firstLength_0 l D E B sa M M1 r N M v0 hJ))
/-! ===== PlainLearner$Shape.ofAct(IILPlainLearner$Shape;LPlainLearner$Shape;)LPlainLearner$Shape; ===== -/
abbrev kd_Sh_ofAct : mv_Kd := (cd_Sh_ofAct, 4, "PlainLearner$Shape", "ofAct", (some (.object "PlainLearner$Shape")), 3, 67)
theorem de_Sh_ofAct_0 : decode cd_Sh_ofAct 0 = .ok (.iload_n 0, 1) := by decide +kernel
theorem de_Sh_ofAct_1 : decode cd_Sh_ofAct 1 = .ok (.invokestatic 32, 3) := by decide +kernel
theorem de_Sh_ofAct_4 : decode cd_Sh_ofAct 4 = .ok (.ifCond .eq 18, 3) := by decide +kernel
theorem de_Sh_ofAct_7 : decode cd_Sh_ofAct 7 = .ok (.aload_n 3, 1) := by decide +kernel
theorem de_Sh_ofAct_8 : decode cd_Sh_ofAct 8 = .ok (.ifnonnull 7, 3) := by decide +kernel
theorem de_Sh_ofAct_11 : decode cd_Sh_ofAct 11 = .ok (.aconst_null, 1) := by decide +kernel
theorem de_Sh_ofAct_12 : decode cd_Sh_ofAct 12 = .ok (.goto 9, 3) := by decide +kernel
theorem de_Sh_ofAct_15 : decode cd_Sh_ofAct 15 = .ok (.iload_n 0, 1) := by decide +kernel
theorem de_Sh_ofAct_16 : decode cd_Sh_ofAct 16 = .ok (.aload_n 2, 1) := by decide +kernel
theorem de_Sh_ofAct_17 : decode cd_Sh_ofAct 17 = .ok (.aload_n 3, 1) := by decide +kernel
theorem de_Sh_ofAct_18 : decode cd_Sh_ofAct 18 = .ok (.invokestatic 37, 3) := by decide +kernel
theorem de_Sh_ofAct_21 : decode cd_Sh_ofAct 21 = .ok (.areturn, 1) := by decide +kernel
theorem de_Sh_ofAct_22 : decode cd_Sh_ofAct 22 = .ok (.iload_n 0, 1) := by decide +kernel
theorem de_Sh_ofAct_23 : decode cd_Sh_ofAct 23 = .ok (.tableswitch 192 5 15 #[57, 57, 57, 83, 109, 192, 192, 192, 192, 149, 172], 57) := by decide +kernel
theorem de_Sh_ofAct_80 : decode cd_Sh_ofAct 80 = .ok (.iload_n 1, 1) := by decide +kernel
theorem de_Sh_ofAct_81 : decode cd_Sh_ofAct 81 = .ok (.ifCond .lt 11, 3) := by decide +kernel
theorem de_Sh_ofAct_84 : decode cd_Sh_ofAct 84 = .ok (.iload_n 1, 1) := by decide +kernel
theorem de_Sh_ofAct_85 : decode cd_Sh_ofAct 85 = .ok (.aload_n 2, 1) := by decide +kernel
theorem de_Sh_ofAct_86 : decode cd_Sh_ofAct 86 = .ok (.getfield 7, 3) := by decide +kernel
theorem de_Sh_ofAct_89 : decode cd_Sh_ofAct 89 = .ok (.if_icmp .lt 7, 3) := by decide +kernel
theorem de_Sh_ofAct_92 : decode cd_Sh_ofAct 92 = .ok (.aconst_null, 1) := by decide +kernel
theorem de_Sh_ofAct_93 : decode cd_Sh_ofAct 93 = .ok (.goto 12, 3) := by decide +kernel
theorem de_Sh_ofAct_96 : decode cd_Sh_ofAct 96 = .ok (.aload_n 2, 1) := by decide +kernel
theorem de_Sh_ofAct_97 : decode cd_Sh_ofAct 97 = .ok (.aload_n 2, 1) := by decide +kernel
theorem de_Sh_ofAct_98 : decode cd_Sh_ofAct 98 = .ok (.iload_n 1, 1) := by decide +kernel
theorem de_Sh_ofAct_99 : decode cd_Sh_ofAct 99 = .ok (.invokevirtual 41, 3) := by decide +kernel
theorem de_Sh_ofAct_102 : decode cd_Sh_ofAct 102 = .ok (.invokevirtual 45, 3) := by decide +kernel
theorem de_Sh_ofAct_105 : decode cd_Sh_ofAct 105 = .ok (.areturn, 1) := by decide +kernel
theorem de_Sh_ofAct_106 : decode cd_Sh_ofAct 106 = .ok (.iload_n 1, 1) := by decide +kernel
theorem de_Sh_ofAct_107 : decode cd_Sh_ofAct 107 = .ok (.ifCond .lt 11, 3) := by decide +kernel
theorem de_Sh_ofAct_110 : decode cd_Sh_ofAct 110 = .ok (.iload_n 1, 1) := by decide +kernel
theorem de_Sh_ofAct_111 : decode cd_Sh_ofAct 111 = .ok (.aload_n 2, 1) := by decide +kernel
theorem de_Sh_ofAct_112 : decode cd_Sh_ofAct 112 = .ok (.invokevirtual 49, 3) := by decide +kernel
theorem de_Sh_ofAct_115 : decode cd_Sh_ofAct 115 = .ok (.if_icmp .lt 7, 3) := by decide +kernel
theorem de_Sh_ofAct_118 : decode cd_Sh_ofAct 118 = .ok (.aconst_null, 1) := by decide +kernel
theorem de_Sh_ofAct_119 : decode cd_Sh_ofAct 119 = .ok (.goto 12, 3) := by decide +kernel
theorem de_Sh_ofAct_122 : decode cd_Sh_ofAct 122 = .ok (.aload_n 2, 1) := by decide +kernel
theorem de_Sh_ofAct_123 : decode cd_Sh_ofAct 123 = .ok (.aload_n 2, 1) := by decide +kernel
theorem de_Sh_ofAct_124 : decode cd_Sh_ofAct 124 = .ok (.iconst 0, 1) := by decide +kernel
theorem de_Sh_ofAct_125 : decode cd_Sh_ofAct 125 = .ok (.invokevirtual 41, 3) := by decide +kernel
theorem de_Sh_ofAct_128 : decode cd_Sh_ofAct 128 = .ok (.invokevirtual 45, 3) := by decide +kernel
theorem de_Sh_ofAct_131 : decode cd_Sh_ofAct 131 = .ok (.areturn, 1) := by decide +kernel
theorem de_Sh_ofAct_132 : decode cd_Sh_ofAct 132 = .ok (.iload_n 1, 1) := by decide +kernel
theorem de_Sh_ofAct_133 : decode cd_Sh_ofAct 133 = .ok (.ifCond .ne 11, 3) := by decide +kernel
theorem de_Sh_ofAct_136 : decode cd_Sh_ofAct 136 = .ok (.aload_n 2, 1) := by decide +kernel
theorem de_Sh_ofAct_137 : decode cd_Sh_ofAct 137 = .ok (.getfield 7, 3) := by decide +kernel
theorem de_Sh_ofAct_140 : decode cd_Sh_ofAct 140 = .ok (.iconst 2, 1) := by decide +kernel
theorem de_Sh_ofAct_141 : decode cd_Sh_ofAct 141 = .ok (.if_icmp .ge 7, 3) := by decide +kernel
theorem de_Sh_ofAct_144 : decode cd_Sh_ofAct 144 = .ok (.aconst_null, 1) := by decide +kernel
theorem de_Sh_ofAct_145 : decode cd_Sh_ofAct 145 = .ok (.goto 26, 3) := by decide +kernel
theorem de_Sh_ofAct_148 : decode cd_Sh_ofAct 148 = .ok (.new 8, 3) := by decide +kernel
theorem de_Sh_ofAct_151 : decode cd_Sh_ofAct 151 = .ok (.dup, 1) := by decide +kernel
theorem de_Sh_ofAct_152 : decode cd_Sh_ofAct 152 = .ok (.aload_n 2, 1) := by decide +kernel
theorem de_Sh_ofAct_153 : decode cd_Sh_ofAct 153 = .ok (.getfield 7, 3) := by decide +kernel
theorem de_Sh_ofAct_156 : decode cd_Sh_ofAct 156 = .ok (.aload_n 2, 1) := by decide +kernel
theorem de_Sh_ofAct_157 : decode cd_Sh_ofAct 157 = .ok (.getfield 13, 3) := by decide +kernel
theorem de_Sh_ofAct_160 : decode cd_Sh_ofAct 160 = .ok (.aload_n 2, 1) := by decide +kernel
theorem de_Sh_ofAct_161 : decode cd_Sh_ofAct 161 = .ok (.getfield 19, 3) := by decide +kernel
theorem de_Sh_ofAct_164 : decode cd_Sh_ofAct 164 = .ok (.aload_n 2, 1) := by decide +kernel
theorem de_Sh_ofAct_165 : decode cd_Sh_ofAct 165 = .ok (.getfield 16, 3) := by decide +kernel
theorem de_Sh_ofAct_168 : decode cd_Sh_ofAct 168 = .ok (.invokespecial 29, 3) := by decide +kernel
theorem de_Sh_ofAct_171 : decode cd_Sh_ofAct 171 = .ok (.areturn, 1) := by decide +kernel
theorem de_Sh_ofAct_172 : decode cd_Sh_ofAct 172 = .ok (.iload_n 1, 1) := by decide +kernel
theorem de_Sh_ofAct_173 : decode cd_Sh_ofAct 173 = .ok (.ifCond .eq 7, 3) := by decide +kernel
theorem de_Sh_ofAct_176 : decode cd_Sh_ofAct 176 = .ok (.aconst_null, 1) := by decide +kernel
theorem de_Sh_ofAct_177 : decode cd_Sh_ofAct 177 = .ok (.goto 17, 3) := by decide +kernel
theorem de_Sh_ofAct_180 : decode cd_Sh_ofAct 180 = .ok (.new 8, 3) := by decide +kernel
theorem de_Sh_ofAct_183 : decode cd_Sh_ofAct 183 = .ok (.dup, 1) := by decide +kernel
theorem de_Sh_ofAct_184 : decode cd_Sh_ofAct 184 = .ok (.iconst 1, 1) := by decide +kernel
theorem de_Sh_ofAct_185 : decode cd_Sh_ofAct 185 = .ok (.iconst 1, 1) := by decide +kernel
theorem de_Sh_ofAct_186 : decode cd_Sh_ofAct 186 = .ok (.iconst 1, 1) := by decide +kernel
theorem de_Sh_ofAct_187 : decode cd_Sh_ofAct 187 = .ok (.aload_n 2, 1) := by decide +kernel
theorem de_Sh_ofAct_188 : decode cd_Sh_ofAct 188 = .ok (.getfield 22, 3) := by decide +kernel
theorem de_Sh_ofAct_191 : decode cd_Sh_ofAct 191 = .ok (.invokespecial 29, 3) := by decide +kernel
theorem de_Sh_ofAct_194 : decode cd_Sh_ofAct 194 = .ok (.areturn, 1) := by decide +kernel
theorem de_Sh_ofAct_195 : decode cd_Sh_ofAct 195 = .ok (.iload_n 1, 1) := by decide +kernel
theorem de_Sh_ofAct_196 : decode cd_Sh_ofAct 196 = .ok (.ifCond .eq 7, 3) := by decide +kernel
theorem de_Sh_ofAct_199 : decode cd_Sh_ofAct 199 = .ok (.aconst_null, 1) := by decide +kernel
theorem de_Sh_ofAct_200 : decode cd_Sh_ofAct 200 = .ok (.goto 14, 3) := by decide +kernel
theorem de_Sh_ofAct_203 : decode cd_Sh_ofAct 203 = .ok (.new 8, 3) := by decide +kernel
theorem de_Sh_ofAct_206 : decode cd_Sh_ofAct 206 = .ok (.dup, 1) := by decide +kernel
theorem de_Sh_ofAct_207 : decode cd_Sh_ofAct 207 = .ok (.iconst 0, 1) := by decide +kernel
theorem de_Sh_ofAct_208 : decode cd_Sh_ofAct 208 = .ok (.iconst 1, 1) := by decide +kernel
theorem de_Sh_ofAct_209 : decode cd_Sh_ofAct 209 = .ok (.iconst 1, 1) := by decide +kernel
theorem de_Sh_ofAct_210 : decode cd_Sh_ofAct 210 = .ok (.iconst 1, 1) := by decide +kernel
theorem de_Sh_ofAct_211 : decode cd_Sh_ofAct 211 = .ok (.invokespecial 29, 3) := by decide +kernel
theorem de_Sh_ofAct_214 : decode cd_Sh_ofAct 214 = .ok (.areturn, 1) := by decide +kernel
theorem de_Sh_ofAct_215 : decode cd_Sh_ofAct 215 = .ok (.iload_n 1, 1) := by decide +kernel
theorem de_Sh_ofAct_216 : decode cd_Sh_ofAct 216 = .ok (.ifCond .eq 7, 3) := by decide +kernel
theorem de_Sh_ofAct_219 : decode cd_Sh_ofAct 219 = .ok (.aconst_null, 1) := by decide +kernel
theorem de_Sh_ofAct_220 : decode cd_Sh_ofAct 220 = .ok (.goto 4, 3) := by decide +kernel
theorem de_Sh_ofAct_223 : decode cd_Sh_ofAct 223 = .ok (.aload_n 2, 1) := by decide +kernel
theorem de_Sh_ofAct_224 : decode cd_Sh_ofAct 224 = .ok (.areturn, 1) := by decide +kernel
def jb_Sh_ofAct_214 (N : Nat) (M : mv_M) (s0 : Option Nat) : Option (Option Nat × mv_M) :=
  some (s0, M)
def jb_Sh_ofAct_194 (N : Nat) (M : mv_M) (s0 : Option Nat) : Option (Option Nat × mv_M) :=
  some (s0, M)
def jb_Sh_ofAct_224 (N : Nat) (M : mv_M) (s0 : Option Nat) : Option (Option Nat × mv_M) :=
  some (s0, M)
def jb_Sh_ofAct_171 (N : Nat) (M : mv_M) (s0 : Option Nat) : Option (Option Nat × mv_M) :=
  some (s0, M)
def jb_Sh_ofAct_144 (N : Nat) (M : mv_M) : Option (Option Nat × mv_M) :=
  jb_Sh_ofAct_171 N M none
def jb_Sh_ofAct_131 (N : Nat) (M : mv_M) (s0 : Option Nat) : Option (Option Nat × mv_M) :=
  some (s0, M)
def jb_Sh_ofAct_118 (N : Nat) (M : mv_M) : Option (Option Nat × mv_M) :=
  jb_Sh_ofAct_131 N M none
def jb_Sh_ofAct_105 (N : Nat) (M : mv_M) (s0 : Option Nat) : Option (Option Nat × mv_M) :=
  some (s0, M)
def jb_Sh_ofAct_92 (N : Nat) (M : mv_M) : Option (Option Nat × mv_M) :=
  jb_Sh_ofAct_105 N M none
def jb_Sh_ofAct_21 (N : Nat) (M : mv_M) (s0 : Option Nat) : Option (Option Nat × mv_M) :=
  some (s0, M)
def jb_Sh_ofAct_0 (N : Nat) (M : mv_M) (v0 : Int32) (v1 : Int32) (v2 : Option Nat) (v3 : Option Nat) : Option (Option Nat × mv_M) :=
  mj_call (jf_Op_isOfTwo N M v0) fun r1 Mm1 =>
  if r1 = 0 then (if v0 = 5 then (if v1 < 0 then (jb_Sh_ofAct_92 N Mm1) else
  Option.bind v2 fun a86 =>
  Option.bind (mj_getI Mm1 a86 5 0) fun x86 =>
  if v1 < x86 then (mj_ob Mm1 a86 5 <|
  mj_call (jf_Sh_placeOf N Mm1 a86 v1) fun r99 Mm99 =>
  mj_ob Mm99 a86 5 <|
  mj_call (jf_Sh_without N Mm99 a86 r99) fun r102 Mm102 =>
  jb_Sh_ofAct_105 N Mm102 r102) else
  jb_Sh_ofAct_92 N Mm1) else
  if v0 = 6 then (if v1 < 0 then (jb_Sh_ofAct_92 N Mm1) else
  Option.bind v2 fun a86 =>
  Option.bind (mj_getI Mm1 a86 5 0) fun x86 =>
  if v1 < x86 then (mj_ob Mm1 a86 5 <|
  mj_call (jf_Sh_placeOf N Mm1 a86 v1) fun r99 Mm99 =>
  mj_ob Mm99 a86 5 <|
  mj_call (jf_Sh_without N Mm99 a86 r99) fun r102 Mm102 =>
  jb_Sh_ofAct_105 N Mm102 r102) else
  jb_Sh_ofAct_92 N Mm1) else
  if v0 = 7 then (if v1 < 0 then (jb_Sh_ofAct_92 N Mm1) else
  Option.bind v2 fun a86 =>
  Option.bind (mj_getI Mm1 a86 5 0) fun x86 =>
  if v1 < x86 then (mj_ob Mm1 a86 5 <|
  mj_call (jf_Sh_placeOf N Mm1 a86 v1) fun r99 Mm99 =>
  mj_ob Mm99 a86 5 <|
  mj_call (jf_Sh_without N Mm99 a86 r99) fun r102 Mm102 =>
  jb_Sh_ofAct_105 N Mm102 r102) else
  jb_Sh_ofAct_92 N Mm1) else
  if v0 = 8 then (if v1 < 0 then (jb_Sh_ofAct_118 N Mm1) else
  Option.bind v2 fun a112 =>
  mj_ob Mm1 a112 5 <|
  mj_call (jf_Sh_firstLength N Mm1 a112) fun r112 Mm112 =>
  if v1 < r112 then (mj_ob Mm112 a112 5 <|
  mj_call (jf_Sh_placeOf N Mm112 a112 0) fun r125 Mm125 =>
  mj_ob Mm125 a112 5 <|
  mj_call (jf_Sh_without N Mm125 a112 r125) fun r128 Mm128 =>
  jb_Sh_ofAct_131 N Mm128 r128) else
  jb_Sh_ofAct_118 N Mm112) else
  if v0 = 9 then (if v1 = 0 then (Option.bind v2 fun a137 =>
  Option.bind (mj_getI Mm1 a137 5 0) fun x137 =>
  if 2 ≤ x137 then (mj_nw Mm1 5 5 [.int 0, .int 0, .int 0, .int 0, .int 0] fun q148 Mm148 =>
  Option.bind (mj_getI Mm148 a137 5 0) fun x153 =>
  Option.bind (mj_getI Mm148 a137 5 1) fun x157 =>
  Option.bind (mj_getI Mm148 a137 5 3) fun x161 =>
  Option.bind (mj_getI Mm148 a137 5 2) fun x165 =>
  mj_call (jf_Sh_init N Mm148 q148 x153 x157 x161 x165) fun r168 Mm168 =>
  jb_Sh_ofAct_171 N Mm168 (some q148)) else
  jb_Sh_ofAct_144 N Mm1) else
  jb_Sh_ofAct_144 N Mm1) else
  if v0 = 10 then (if v1 = 0 then (jb_Sh_ofAct_224 N Mm1 v2) else
  jb_Sh_ofAct_224 N Mm1 none) else
  if v0 = 11 then (if v1 = 0 then (jb_Sh_ofAct_224 N Mm1 v2) else
  jb_Sh_ofAct_224 N Mm1 none) else
  if v0 = 12 then (if v1 = 0 then (jb_Sh_ofAct_224 N Mm1 v2) else
  jb_Sh_ofAct_224 N Mm1 none) else
  if v0 = 13 then (if v1 = 0 then (jb_Sh_ofAct_224 N Mm1 v2) else
  jb_Sh_ofAct_224 N Mm1 none) else
  if v0 = 14 then (if v1 = 0 then (mj_nw Mm1 5 5 [.int 0, .int 0, .int 0, .int 0, .int 0] fun q180 Mm180 =>
  Option.bind v2 fun a188 =>
  Option.bind (mj_getI Mm180 a188 5 4) fun x188 =>
  mj_call (jf_Sh_init N Mm180 q180 1 1 1 x188) fun r191 Mm191 =>
  jb_Sh_ofAct_194 N Mm191 (some q180)) else
  jb_Sh_ofAct_194 N Mm1 none) else
  if v0 = 15 then (if v1 = 0 then (mj_nw Mm1 5 5 [.int 0, .int 0, .int 0, .int 0, .int 0] fun q203 Mm203 =>
  mj_call (jf_Sh_init N Mm203 q203 0 1 1 1) fun r211 Mm211 =>
  jb_Sh_ofAct_214 N Mm211 (some q203)) else
  jb_Sh_ofAct_214 N Mm1 none) else
  if v1 = 0 then (jb_Sh_ofAct_224 N Mm1 v2) else
  jb_Sh_ofAct_224 N Mm1 none) else
  mj_opt v3 (jb_Sh_ofAct_21 N Mm1 none) fun a8 =>
  mj_call (jf_Sh_ofTwo N Mm1 v0 v2 (some a8)) fun r18 Mm18 =>
  jb_Sh_ofAct_21 N Mm18 r18
def jf_Sh_ofAct (N : Nat) (M : mv_M) (v0 : Int32) (v1 : Int32) (v2 : Option Nat) (v3 : Option Nat) : Option (Option Nat × mv_M) := jb_Sh_ofAct_0 N M v0 v1 v2 v3
set_option maxHeartbeats 4000000 in
set_option maxRecDepth 100000 in
theorem tb_Sh_ofAct_214 (l : Launch) (D : va_G) (E : Nat → ClassId) (B : Nat) (sa : (Nat → Nat) × Nat × (Nat → Int32)) (M0 M1 : mv_M) (r : Option Nat) (N : Nat) (M : mv_M) (s0 : Option Nat) (hJ : jb_Sh_ofAct_214 N M s0 = some (r, M1)) : mv_G (xg l D E B sa) kd_Sh_ofAct M0 M1 (some (va_rf r)) M 214 [] [va_rf s0] := by
  unfold jb_Sh_ofAct_214 at hJ
  exact mv_aret (pc := 214) rfl (Or.inl ⟨_, rfl⟩) de_Sh_ofAct_214 hJ
set_option maxHeartbeats 4000000 in
set_option maxRecDepth 100000 in
theorem tb_Sh_ofAct_194 (l : Launch) (D : va_G) (E : Nat → ClassId) (B : Nat) (sa : (Nat → Nat) × Nat × (Nat → Int32)) (M0 M1 : mv_M) (r : Option Nat) (N : Nat) (M : mv_M) (s0 : Option Nat) (hJ : jb_Sh_ofAct_194 N M s0 = some (r, M1)) : mv_G (xg l D E B sa) kd_Sh_ofAct M0 M1 (some (va_rf r)) M 194 [] [va_rf s0] := by
  unfold jb_Sh_ofAct_194 at hJ
  exact mv_aret (pc := 194) rfl (Or.inl ⟨_, rfl⟩) de_Sh_ofAct_194 hJ
set_option maxHeartbeats 4000000 in
set_option maxRecDepth 100000 in
theorem tb_Sh_ofAct_224 (l : Launch) (D : va_G) (E : Nat → ClassId) (B : Nat) (sa : (Nat → Nat) × Nat × (Nat → Int32)) (M0 M1 : mv_M) (r : Option Nat) (N : Nat) (M : mv_M) (s0 : Option Nat) (hJ : jb_Sh_ofAct_224 N M s0 = some (r, M1)) : mv_G (xg l D E B sa) kd_Sh_ofAct M0 M1 (some (va_rf r)) M 224 [] [va_rf s0] := by
  unfold jb_Sh_ofAct_224 at hJ
  exact mv_aret (pc := 224) rfl (Or.inl ⟨_, rfl⟩) de_Sh_ofAct_224 hJ
set_option maxHeartbeats 4000000 in
set_option maxRecDepth 100000 in
theorem tb_Sh_ofAct_171 (l : Launch) (D : va_G) (E : Nat → ClassId) (B : Nat) (sa : (Nat → Nat) × Nat × (Nat → Int32)) (M0 M1 : mv_M) (r : Option Nat) (N : Nat) (M : mv_M) (s0 : Option Nat) (hJ : jb_Sh_ofAct_171 N M s0 = some (r, M1)) : mv_G (xg l D E B sa) kd_Sh_ofAct M0 M1 (some (va_rf r)) M 171 [] [va_rf s0] := by
  unfold jb_Sh_ofAct_171 at hJ
  exact mv_aret (pc := 171) rfl (Or.inl ⟨_, rfl⟩) de_Sh_ofAct_171 hJ
set_option maxHeartbeats 4000000 in
set_option maxRecDepth 100000 in
theorem tb_Sh_ofAct_144 (l : Launch) (D : va_G) (E : Nat → ClassId) (B : Nat) (sa : (Nat → Nat) × Nat × (Nat → Int32)) (M0 M1 : mv_M) (r : Option Nat) (N : Nat) (M : mv_M) (hJ : jb_Sh_ofAct_144 N M = some (r, M1)) : mv_G (xg l D E B sa) kd_Sh_ofAct M0 M1 (some (va_rf r)) M 144 [] [] := by
  unfold jb_Sh_ofAct_144 at hJ
  refine mv_null (pc := 144) de_Sh_ofAct_144 ?_
  refine mv_goto (pc := 145) (tgt := 171) de_Sh_ofAct_145 (by decide) ?_
  exact mv_sub [] rfl (tb_Sh_ofAct_171 l D E B sa M0 M1 r N M none hJ)
set_option maxHeartbeats 4000000 in
set_option maxRecDepth 100000 in
theorem tb_Sh_ofAct_131 (l : Launch) (D : va_G) (E : Nat → ClassId) (B : Nat) (sa : (Nat → Nat) × Nat × (Nat → Int32)) (M0 M1 : mv_M) (r : Option Nat) (N : Nat) (M : mv_M) (s0 : Option Nat) (hJ : jb_Sh_ofAct_131 N M s0 = some (r, M1)) : mv_G (xg l D E B sa) kd_Sh_ofAct M0 M1 (some (va_rf r)) M 131 [] [va_rf s0] := by
  unfold jb_Sh_ofAct_131 at hJ
  exact mv_aret (pc := 131) rfl (Or.inl ⟨_, rfl⟩) de_Sh_ofAct_131 hJ
set_option maxHeartbeats 4000000 in
set_option maxRecDepth 100000 in
theorem tb_Sh_ofAct_118 (l : Launch) (D : va_G) (E : Nat → ClassId) (B : Nat) (sa : (Nat → Nat) × Nat × (Nat → Int32)) (M0 M1 : mv_M) (r : Option Nat) (N : Nat) (M : mv_M) (hJ : jb_Sh_ofAct_118 N M = some (r, M1)) : mv_G (xg l D E B sa) kd_Sh_ofAct M0 M1 (some (va_rf r)) M 118 [] [] := by
  unfold jb_Sh_ofAct_118 at hJ
  refine mv_null (pc := 118) de_Sh_ofAct_118 ?_
  refine mv_goto (pc := 119) (tgt := 131) de_Sh_ofAct_119 (by decide) ?_
  exact mv_sub [] rfl (tb_Sh_ofAct_131 l D E B sa M0 M1 r N M none hJ)
set_option maxHeartbeats 4000000 in
set_option maxRecDepth 100000 in
theorem tb_Sh_ofAct_105 (l : Launch) (D : va_G) (E : Nat → ClassId) (B : Nat) (sa : (Nat → Nat) × Nat × (Nat → Int32)) (M0 M1 : mv_M) (r : Option Nat) (N : Nat) (M : mv_M) (s0 : Option Nat) (hJ : jb_Sh_ofAct_105 N M s0 = some (r, M1)) : mv_G (xg l D E B sa) kd_Sh_ofAct M0 M1 (some (va_rf r)) M 105 [] [va_rf s0] := by
  unfold jb_Sh_ofAct_105 at hJ
  exact mv_aret (pc := 105) rfl (Or.inl ⟨_, rfl⟩) de_Sh_ofAct_105 hJ
set_option maxHeartbeats 4000000 in
set_option maxRecDepth 100000 in
theorem tb_Sh_ofAct_92 (l : Launch) (D : va_G) (E : Nat → ClassId) (B : Nat) (sa : (Nat → Nat) × Nat × (Nat → Int32)) (M0 M1 : mv_M) (r : Option Nat) (N : Nat) (M : mv_M) (hJ : jb_Sh_ofAct_92 N M = some (r, M1)) : mv_G (xg l D E B sa) kd_Sh_ofAct M0 M1 (some (va_rf r)) M 92 [] [] := by
  unfold jb_Sh_ofAct_92 at hJ
  refine mv_null (pc := 92) de_Sh_ofAct_92 ?_
  refine mv_goto (pc := 93) (tgt := 105) de_Sh_ofAct_93 (by decide) ?_
  exact mv_sub [] rfl (tb_Sh_ofAct_105 l D E B sa M0 M1 r N M none hJ)
set_option maxHeartbeats 4000000 in
set_option maxRecDepth 100000 in
theorem tb_Sh_ofAct_21 (l : Launch) (D : va_G) (E : Nat → ClassId) (B : Nat) (sa : (Nat → Nat) × Nat × (Nat → Int32)) (M0 M1 : mv_M) (r : Option Nat) (N : Nat) (M : mv_M) (s0 : Option Nat) (hJ : jb_Sh_ofAct_21 N M s0 = some (r, M1)) : mv_G (xg l D E B sa) kd_Sh_ofAct M0 M1 (some (va_rf r)) M 21 [] [va_rf s0] := by
  unfold jb_Sh_ofAct_21 at hJ
  exact mv_aret (pc := 21) rfl (Or.inl ⟨_, rfl⟩) de_Sh_ofAct_21 hJ
set_option maxHeartbeats 4000000 in
set_option maxRecDepth 100000 in
theorem tb_Sh_ofAct_0 (l : Launch) (D : va_G) (E : Nat → ClassId) (B : Nat) (sa : (Nat → Nat) × Nat × (Nat → Int32)) (M0 M1 : mv_M) (r : Option Nat) (N : Nat) (M : mv_M) (v0 : Int32) (v1 : Int32) (v2 : Option Nat) (v3 : Option Nat) (hJ : jb_Sh_ofAct_0 N M v0 v1 v2 v3 = some (r, M1)) : mv_G (xg l D E B sa) kd_Sh_ofAct M0 M1 (some (va_rf r)) M 0 [(0, .int v0), (1, .int v1), (2, va_rf v2), (3, va_rf v3)] [] := by
  unfold jb_Sh_ofAct_0 at hJ
  refine mv_iload_n (pc := 0) (i := 0) de_Sh_ofAct_0 rfl 0 rfl ?_
  obtain ⟨r1, Mm1, hz1, h1⟩ := mj_callE hJ
  refine mv_callS (pc := 1) (n := 1) (av := [.int v0]) (rest := []) de_Sh_ofAct_1 (cm_Op_isOfTwo l D E B sa N M v0 _ _ hz1) wt_2_77 wt_2_72 wt_1_13 wt_2_73 ⟨by decide, by decide, by decide +kernel⟩ rfl ⟨Nat.le_of_ble_eq_true rfl, Nat.le_of_ble_eq_true rfl⟩ (Nat.le_of_ble_eq_true rfl) rfl ?_
  refine mv_if_eq (pc := 4) (tgt := 22) de_Sh_ofAct_4 (by decide) h1 (fun hc4 h4 => ?_) (fun hc4 h4 => ?_)
  · refine mv_iload_n (pc := 22) (i := 0) de_Sh_ofAct_22 rfl 0 rfl ?_
    by_cases hs23_5 : v0 = 5
    · rw [if_pos hs23_5] at h4
      refine mv_tin (pc := 23) (tgt := 80) (off := 57) 5 de_Sh_ofAct_23 hs23_5 (by decide) (by decide) ?_
      refine mv_iload_n (pc := 80) (i := 1) de_Sh_ofAct_80 rfl 1 rfl ?_
      refine mv_if_lt (pc := 81) (tgt := 92) de_Sh_ofAct_81 (by decide) h4 (fun hc81 h81 => ?_) (fun hc81 h81 => ?_)
      · exact mv_sub [] rfl (tb_Sh_ofAct_92 l D E B sa M0 M1 r N Mm1 h81)
      · refine mv_iload_n (pc := 84) (i := 1) de_Sh_ofAct_84 rfl 1 rfl ?_
        refine mv_aload_n (pc := 85) (i := 2) de_Sh_ofAct_85 rfl 2 rfl ?_
        obtain ⟨a86, ha, h86a⟩ := mj_bindE h81
        subst ha
        refine mv_getI (pc := 86) (f := 0) (kc_5 l D E B sa) (Nat.le_of_ble_eq_true rfl) wt_1_178 de_Sh_ofAct_86 h86a (fun x86 e86 h86 => ?_)
        refine mv_icmp_lt (pc := 89) (tgt := 96) de_Sh_ofAct_89 (by decide) h86 (fun hc89 h89 => ?_) (fun hc89 h89 => ?_)
        · refine mv_aload_n (pc := 96) (i := 2) de_Sh_ofAct_96 rfl 2 rfl ?_
          refine mv_aload_n (pc := 97) (i := 2) de_Sh_ofAct_97 rfl 2 rfl ?_
          refine mv_iload_n (pc := 98) (i := 1) de_Sh_ofAct_98 rfl 1 rfl ?_
          obtain ⟨hi99, h99o⟩ := mj_obE h89
          obtain ⟨r99, Mm99, hz99, h99⟩ := mj_callE h99o
          refine mv_callV (pc := 99) (n := 1) (av := [.int v1]) (rest := [va_rf (some a86)]) de_Sh_ofAct_99 (kc_5 l D E B sa) hi99 (cm_Sh_placeOf l D E B sa N Mm1 a86 v1 _ _ hz99) wt_2_87 wt_2_88 wt_2_89 wt_1_9 wt_2_90 ⟨by decide, by decide, by decide +kernel⟩ rfl ⟨Nat.le_of_ble_eq_true rfl, Nat.le_of_ble_eq_true rfl⟩ (Nat.le_of_ble_eq_true rfl) rfl ?_
          obtain ⟨hi102, h102o⟩ := mj_obE h99
          obtain ⟨r102, Mm102, hz102, h102⟩ := mj_callE h102o
          refine mv_callV (pc := 102) (n := 1) (av := [.int r99]) (rest := []) de_Sh_ofAct_102 (kc_5 l D E B sa) hi102 (cm_Sh_without l D E B sa N Mm99 a86 r99 _ _ hz102) wt_2_91 wt_2_93 wp_3 wt_1_9 wt_2_94 ⟨by decide, by decide, by decide +kernel⟩ rfl ⟨Nat.le_of_ble_eq_true rfl, Nat.le_of_ble_eq_true rfl⟩ (Nat.le_of_ble_eq_true rfl) rfl ?_
          exact mv_sub [] rfl (tb_Sh_ofAct_105 l D E B sa M0 M1 r N Mm102 r102 h102)
        · exact mv_sub [] rfl (tb_Sh_ofAct_92 l D E B sa M0 M1 r N Mm1 h89)
    rw [if_neg hs23_5] at h4
    by_cases hs23_6 : v0 = 6
    · rw [if_pos hs23_6] at h4
      refine mv_tin (pc := 23) (tgt := 80) (off := 57) 6 de_Sh_ofAct_23 hs23_6 (by decide) (by decide) ?_
      refine mv_iload_n (pc := 80) (i := 1) de_Sh_ofAct_80 rfl 1 rfl ?_
      refine mv_if_lt (pc := 81) (tgt := 92) de_Sh_ofAct_81 (by decide) h4 (fun hc81 h81 => ?_) (fun hc81 h81 => ?_)
      · exact mv_sub [] rfl (tb_Sh_ofAct_92 l D E B sa M0 M1 r N Mm1 h81)
      · refine mv_iload_n (pc := 84) (i := 1) de_Sh_ofAct_84 rfl 1 rfl ?_
        refine mv_aload_n (pc := 85) (i := 2) de_Sh_ofAct_85 rfl 2 rfl ?_
        obtain ⟨a86, ha, h86a⟩ := mj_bindE h81
        subst ha
        refine mv_getI (pc := 86) (f := 0) (kc_5 l D E B sa) (Nat.le_of_ble_eq_true rfl) wt_1_178 de_Sh_ofAct_86 h86a (fun x86 e86 h86 => ?_)
        refine mv_icmp_lt (pc := 89) (tgt := 96) de_Sh_ofAct_89 (by decide) h86 (fun hc89 h89 => ?_) (fun hc89 h89 => ?_)
        · refine mv_aload_n (pc := 96) (i := 2) de_Sh_ofAct_96 rfl 2 rfl ?_
          refine mv_aload_n (pc := 97) (i := 2) de_Sh_ofAct_97 rfl 2 rfl ?_
          refine mv_iload_n (pc := 98) (i := 1) de_Sh_ofAct_98 rfl 1 rfl ?_
          obtain ⟨hi99, h99o⟩ := mj_obE h89
          obtain ⟨r99, Mm99, hz99, h99⟩ := mj_callE h99o
          refine mv_callV (pc := 99) (n := 1) (av := [.int v1]) (rest := [va_rf (some a86)]) de_Sh_ofAct_99 (kc_5 l D E B sa) hi99 (cm_Sh_placeOf l D E B sa N Mm1 a86 v1 _ _ hz99) wt_2_87 wt_2_88 wt_2_89 wt_1_9 wt_2_90 ⟨by decide, by decide, by decide +kernel⟩ rfl ⟨Nat.le_of_ble_eq_true rfl, Nat.le_of_ble_eq_true rfl⟩ (Nat.le_of_ble_eq_true rfl) rfl ?_
          obtain ⟨hi102, h102o⟩ := mj_obE h99
          obtain ⟨r102, Mm102, hz102, h102⟩ := mj_callE h102o
          refine mv_callV (pc := 102) (n := 1) (av := [.int r99]) (rest := []) de_Sh_ofAct_102 (kc_5 l D E B sa) hi102 (cm_Sh_without l D E B sa N Mm99 a86 r99 _ _ hz102) wt_2_91 wt_2_93 wp_3 wt_1_9 wt_2_94 ⟨by decide, by decide, by decide +kernel⟩ rfl ⟨Nat.le_of_ble_eq_true rfl, Nat.le_of_ble_eq_true rfl⟩ (Nat.le_of_ble_eq_true rfl) rfl ?_
          exact mv_sub [] rfl (tb_Sh_ofAct_105 l D E B sa M0 M1 r N Mm102 r102 h102)
        · exact mv_sub [] rfl (tb_Sh_ofAct_92 l D E B sa M0 M1 r N Mm1 h89)
    rw [if_neg hs23_6] at h4
    by_cases hs23_7 : v0 = 7
    · rw [if_pos hs23_7] at h4
      refine mv_tin (pc := 23) (tgt := 80) (off := 57) 7 de_Sh_ofAct_23 hs23_7 (by decide) (by decide) ?_
      refine mv_iload_n (pc := 80) (i := 1) de_Sh_ofAct_80 rfl 1 rfl ?_
      refine mv_if_lt (pc := 81) (tgt := 92) de_Sh_ofAct_81 (by decide) h4 (fun hc81 h81 => ?_) (fun hc81 h81 => ?_)
      · exact mv_sub [] rfl (tb_Sh_ofAct_92 l D E B sa M0 M1 r N Mm1 h81)
      · refine mv_iload_n (pc := 84) (i := 1) de_Sh_ofAct_84 rfl 1 rfl ?_
        refine mv_aload_n (pc := 85) (i := 2) de_Sh_ofAct_85 rfl 2 rfl ?_
        obtain ⟨a86, ha, h86a⟩ := mj_bindE h81
        subst ha
        refine mv_getI (pc := 86) (f := 0) (kc_5 l D E B sa) (Nat.le_of_ble_eq_true rfl) wt_1_178 de_Sh_ofAct_86 h86a (fun x86 e86 h86 => ?_)
        refine mv_icmp_lt (pc := 89) (tgt := 96) de_Sh_ofAct_89 (by decide) h86 (fun hc89 h89 => ?_) (fun hc89 h89 => ?_)
        · refine mv_aload_n (pc := 96) (i := 2) de_Sh_ofAct_96 rfl 2 rfl ?_
          refine mv_aload_n (pc := 97) (i := 2) de_Sh_ofAct_97 rfl 2 rfl ?_
          refine mv_iload_n (pc := 98) (i := 1) de_Sh_ofAct_98 rfl 1 rfl ?_
          obtain ⟨hi99, h99o⟩ := mj_obE h89
          obtain ⟨r99, Mm99, hz99, h99⟩ := mj_callE h99o
          refine mv_callV (pc := 99) (n := 1) (av := [.int v1]) (rest := [va_rf (some a86)]) de_Sh_ofAct_99 (kc_5 l D E B sa) hi99 (cm_Sh_placeOf l D E B sa N Mm1 a86 v1 _ _ hz99) wt_2_87 wt_2_88 wt_2_89 wt_1_9 wt_2_90 ⟨by decide, by decide, by decide +kernel⟩ rfl ⟨Nat.le_of_ble_eq_true rfl, Nat.le_of_ble_eq_true rfl⟩ (Nat.le_of_ble_eq_true rfl) rfl ?_
          obtain ⟨hi102, h102o⟩ := mj_obE h99
          obtain ⟨r102, Mm102, hz102, h102⟩ := mj_callE h102o
          refine mv_callV (pc := 102) (n := 1) (av := [.int r99]) (rest := []) de_Sh_ofAct_102 (kc_5 l D E B sa) hi102 (cm_Sh_without l D E B sa N Mm99 a86 r99 _ _ hz102) wt_2_91 wt_2_93 wp_3 wt_1_9 wt_2_94 ⟨by decide, by decide, by decide +kernel⟩ rfl ⟨Nat.le_of_ble_eq_true rfl, Nat.le_of_ble_eq_true rfl⟩ (Nat.le_of_ble_eq_true rfl) rfl ?_
          exact mv_sub [] rfl (tb_Sh_ofAct_105 l D E B sa M0 M1 r N Mm102 r102 h102)
        · exact mv_sub [] rfl (tb_Sh_ofAct_92 l D E B sa M0 M1 r N Mm1 h89)
    rw [if_neg hs23_7] at h4
    by_cases hs23_8 : v0 = 8
    · rw [if_pos hs23_8] at h4
      refine mv_tin (pc := 23) (tgt := 106) (off := 83) 8 de_Sh_ofAct_23 hs23_8 (by decide) (by decide) ?_
      refine mv_iload_n (pc := 106) (i := 1) de_Sh_ofAct_106 rfl 1 rfl ?_
      refine mv_if_lt (pc := 107) (tgt := 118) de_Sh_ofAct_107 (by decide) h4 (fun hc107 h107 => ?_) (fun hc107 h107 => ?_)
      · exact mv_sub [] rfl (tb_Sh_ofAct_118 l D E B sa M0 M1 r N Mm1 h107)
      · refine mv_iload_n (pc := 110) (i := 1) de_Sh_ofAct_110 rfl 1 rfl ?_
        refine mv_aload_n (pc := 111) (i := 2) de_Sh_ofAct_111 rfl 2 rfl ?_
        obtain ⟨a112, ha, h112a⟩ := mj_bindE h107
        subst ha
        obtain ⟨hi112, h112o⟩ := mj_obE h112a
        obtain ⟨r112, Mm112, hz112, h112⟩ := mj_callE h112o
        refine mv_callV (pc := 112) (n := 0) (av := []) (rest := [.int v1]) de_Sh_ofAct_112 (kc_5 l D E B sa) hi112 (cm_Sh_firstLength l D E B sa N Mm1 a112 _ _ hz112) wt_2_95 wt_2_96 wt_2_97 wt_1_9 wt_2_98 ⟨by decide, by decide, by decide +kernel⟩ rfl ⟨Nat.le_of_ble_eq_true rfl, Nat.le_of_ble_eq_true rfl⟩ (Nat.le_of_ble_eq_true rfl) rfl ?_
        refine mv_icmp_lt (pc := 115) (tgt := 122) de_Sh_ofAct_115 (by decide) h112 (fun hc115 h115 => ?_) (fun hc115 h115 => ?_)
        · refine mv_aload_n (pc := 122) (i := 2) de_Sh_ofAct_122 rfl 2 rfl ?_
          refine mv_aload_n (pc := 123) (i := 2) de_Sh_ofAct_123 rfl 2 rfl ?_
          refine mv_iconst (pc := 124) (v := 0) de_Sh_ofAct_124 (by decide) ?_
          obtain ⟨hi125, h125o⟩ := mj_obE h115
          obtain ⟨r125, Mm125, hz125, h125⟩ := mj_callE h125o
          refine mv_callV (pc := 125) (n := 1) (av := [.int 0]) (rest := [va_rf (some a112)]) de_Sh_ofAct_125 (kc_5 l D E B sa) hi125 (cm_Sh_placeOf l D E B sa N Mm112 a112 0 _ _ hz125) wt_2_87 wt_2_88 wt_2_89 wt_1_9 wt_2_90 ⟨by decide, by decide, by decide +kernel⟩ rfl ⟨Nat.le_of_ble_eq_true rfl, Nat.le_of_ble_eq_true rfl⟩ (Nat.le_of_ble_eq_true rfl) rfl ?_
          obtain ⟨hi128, h128o⟩ := mj_obE h125
          obtain ⟨r128, Mm128, hz128, h128⟩ := mj_callE h128o
          refine mv_callV (pc := 128) (n := 1) (av := [.int r125]) (rest := []) de_Sh_ofAct_128 (kc_5 l D E B sa) hi128 (cm_Sh_without l D E B sa N Mm125 a112 r125 _ _ hz128) wt_2_91 wt_2_93 wp_3 wt_1_9 wt_2_94 ⟨by decide, by decide, by decide +kernel⟩ rfl ⟨Nat.le_of_ble_eq_true rfl, Nat.le_of_ble_eq_true rfl⟩ (Nat.le_of_ble_eq_true rfl) rfl ?_
          exact mv_sub [] rfl (tb_Sh_ofAct_131 l D E B sa M0 M1 r N Mm128 r128 h128)
        · exact mv_sub [] rfl (tb_Sh_ofAct_118 l D E B sa M0 M1 r N Mm112 h115)
    rw [if_neg hs23_8] at h4
    by_cases hs23_9 : v0 = 9
    · rw [if_pos hs23_9] at h4
      refine mv_tin (pc := 23) (tgt := 132) (off := 109) 9 de_Sh_ofAct_23 hs23_9 (by decide) (by decide) ?_
      refine mv_iload_n (pc := 132) (i := 1) de_Sh_ofAct_132 rfl 1 rfl ?_
      refine mv_if_ne (pc := 133) (tgt := 144) de_Sh_ofAct_133 (by decide) h4 (fun hc133 h133 => ?_) (fun hc133 h133 => ?_)
      · refine mv_aload_n (pc := 136) (i := 2) de_Sh_ofAct_136 rfl 2 rfl ?_
        obtain ⟨a137, ha, h137a⟩ := mj_bindE h133
        subst ha
        refine mv_getI (pc := 137) (f := 0) (kc_5 l D E B sa) (Nat.le_of_ble_eq_true rfl) wt_1_178 de_Sh_ofAct_137 h137a (fun x137 e137 h137 => ?_)
        refine mv_iconst (pc := 140) (v := 2) de_Sh_ofAct_140 (by decide) ?_
        refine mv_icmp_ge (pc := 141) (tgt := 148) de_Sh_ofAct_141 (by decide) h137 (fun hc141 h141 => ?_) (fun hc141 h141 => ?_)
        · refine mv_nw (pc := 148) (kc_5 l D E B sa) wt_1_172 wt_1_173 wt_1_9 (kn_5) de_Sh_ofAct_148 h141 (fun q148 Mm148 eq148 eM148 h148 => ?_)
          refine mv_dup (pc := 151) de_Sh_ofAct_151 rfl ?_
          refine mv_aload_n (pc := 152) (i := 2) de_Sh_ofAct_152 rfl 2 rfl ?_
          refine mv_getI (pc := 153) (f := 0) (kc_5 l D E B sa) (Nat.le_of_ble_eq_true rfl) wt_1_178 de_Sh_ofAct_153 h148 (fun x153 e153 h153 => ?_)
          refine mv_aload_n (pc := 156) (i := 2) de_Sh_ofAct_156 rfl 2 rfl ?_
          refine mv_getI (pc := 157) (f := 1) (kc_5 l D E B sa) (Nat.le_of_ble_eq_true rfl) wt_1_181 de_Sh_ofAct_157 h153 (fun x157 e157 h157 => ?_)
          refine mv_aload_n (pc := 160) (i := 2) de_Sh_ofAct_160 rfl 2 rfl ?_
          refine mv_getI (pc := 161) (f := 3) (kc_5 l D E B sa) (Nat.le_of_ble_eq_true rfl) wt_1_187 de_Sh_ofAct_161 h157 (fun x161 e161 h161 => ?_)
          refine mv_aload_n (pc := 164) (i := 2) de_Sh_ofAct_164 rfl 2 rfl ?_
          refine mv_getI (pc := 165) (f := 2) (kc_5 l D E B sa) (Nat.le_of_ble_eq_true rfl) wt_1_184 de_Sh_ofAct_165 h161 (fun x165 e165 h165 => ?_)
          obtain ⟨r168, Mm168, hz168, h168⟩ := mj_callE h165
          refine mv_callI (pc := 168) (n := 4) (av := [.int x153, .int x157, .int x161, .int x165]) (rest := [va_rf (some q148)]) de_Sh_ofAct_168 (cm_Sh_init l D E B sa N Mm148 q148 x153 x157 x161 x165 _ _ hz168) wt_1_174 wt_1_175 wt_1_9 wt_1_176 rfl ⟨by decide, by decide, by decide +kernel⟩ rfl ⟨Nat.le_of_ble_eq_true rfl, Nat.le_of_ble_eq_true rfl⟩ (Nat.le_of_ble_eq_true rfl) rfl ?_
          exact mv_sub [] rfl (tb_Sh_ofAct_171 l D E B sa M0 M1 r N Mm168 (some q148) h168)
        · exact mv_sub [] rfl (tb_Sh_ofAct_144 l D E B sa M0 M1 r N Mm1 h141)
      · exact mv_sub [] rfl (tb_Sh_ofAct_144 l D E B sa M0 M1 r N Mm1 h133)
    rw [if_neg hs23_9] at h4
    by_cases hs23_10 : v0 = 10
    · rw [if_pos hs23_10] at h4
      refine mv_tin (pc := 23) (tgt := 215) (off := 192) 10 de_Sh_ofAct_23 hs23_10 (by decide) (by decide) ?_
      refine mv_iload_n (pc := 215) (i := 1) de_Sh_ofAct_215 rfl 1 rfl ?_
      refine mv_if_eq (pc := 216) (tgt := 223) de_Sh_ofAct_216 (by decide) h4 (fun hc216 h216 => ?_) (fun hc216 h216 => ?_)
      · refine mv_aload_n (pc := 223) (i := 2) de_Sh_ofAct_223 rfl 2 rfl ?_
        exact mv_sub [] rfl (tb_Sh_ofAct_224 l D E B sa M0 M1 r N Mm1 v2 h216)
      · refine mv_null (pc := 219) de_Sh_ofAct_219 ?_
        refine mv_goto (pc := 220) (tgt := 224) de_Sh_ofAct_220 (by decide) ?_
        exact mv_sub [] rfl (tb_Sh_ofAct_224 l D E B sa M0 M1 r N Mm1 none h216)
    rw [if_neg hs23_10] at h4
    by_cases hs23_11 : v0 = 11
    · rw [if_pos hs23_11] at h4
      refine mv_tin (pc := 23) (tgt := 215) (off := 192) 11 de_Sh_ofAct_23 hs23_11 (by decide) (by decide) ?_
      refine mv_iload_n (pc := 215) (i := 1) de_Sh_ofAct_215 rfl 1 rfl ?_
      refine mv_if_eq (pc := 216) (tgt := 223) de_Sh_ofAct_216 (by decide) h4 (fun hc216 h216 => ?_) (fun hc216 h216 => ?_)
      · refine mv_aload_n (pc := 223) (i := 2) de_Sh_ofAct_223 rfl 2 rfl ?_
        exact mv_sub [] rfl (tb_Sh_ofAct_224 l D E B sa M0 M1 r N Mm1 v2 h216)
      · refine mv_null (pc := 219) de_Sh_ofAct_219 ?_
        refine mv_goto (pc := 220) (tgt := 224) de_Sh_ofAct_220 (by decide) ?_
        exact mv_sub [] rfl (tb_Sh_ofAct_224 l D E B sa M0 M1 r N Mm1 none h216)
    rw [if_neg hs23_11] at h4
    by_cases hs23_12 : v0 = 12
    · rw [if_pos hs23_12] at h4
      refine mv_tin (pc := 23) (tgt := 215) (off := 192) 12 de_Sh_ofAct_23 hs23_12 (by decide) (by decide) ?_
      refine mv_iload_n (pc := 215) (i := 1) de_Sh_ofAct_215 rfl 1 rfl ?_
      refine mv_if_eq (pc := 216) (tgt := 223) de_Sh_ofAct_216 (by decide) h4 (fun hc216 h216 => ?_) (fun hc216 h216 => ?_)
      · refine mv_aload_n (pc := 223) (i := 2) de_Sh_ofAct_223 rfl 2 rfl ?_
        exact mv_sub [] rfl (tb_Sh_ofAct_224 l D E B sa M0 M1 r N Mm1 v2 h216)
      · refine mv_null (pc := 219) de_Sh_ofAct_219 ?_
        refine mv_goto (pc := 220) (tgt := 224) de_Sh_ofAct_220 (by decide) ?_
        exact mv_sub [] rfl (tb_Sh_ofAct_224 l D E B sa M0 M1 r N Mm1 none h216)
    rw [if_neg hs23_12] at h4
    by_cases hs23_13 : v0 = 13
    · rw [if_pos hs23_13] at h4
      refine mv_tin (pc := 23) (tgt := 215) (off := 192) 13 de_Sh_ofAct_23 hs23_13 (by decide) (by decide) ?_
      refine mv_iload_n (pc := 215) (i := 1) de_Sh_ofAct_215 rfl 1 rfl ?_
      refine mv_if_eq (pc := 216) (tgt := 223) de_Sh_ofAct_216 (by decide) h4 (fun hc216 h216 => ?_) (fun hc216 h216 => ?_)
      · refine mv_aload_n (pc := 223) (i := 2) de_Sh_ofAct_223 rfl 2 rfl ?_
        exact mv_sub [] rfl (tb_Sh_ofAct_224 l D E B sa M0 M1 r N Mm1 v2 h216)
      · refine mv_null (pc := 219) de_Sh_ofAct_219 ?_
        refine mv_goto (pc := 220) (tgt := 224) de_Sh_ofAct_220 (by decide) ?_
        exact mv_sub [] rfl (tb_Sh_ofAct_224 l D E B sa M0 M1 r N Mm1 none h216)
    rw [if_neg hs23_13] at h4
    by_cases hs23_14 : v0 = 14
    · rw [if_pos hs23_14] at h4
      refine mv_tin (pc := 23) (tgt := 172) (off := 149) 14 de_Sh_ofAct_23 hs23_14 (by decide) (by decide) ?_
      refine mv_iload_n (pc := 172) (i := 1) de_Sh_ofAct_172 rfl 1 rfl ?_
      refine mv_if_eq (pc := 173) (tgt := 180) de_Sh_ofAct_173 (by decide) h4 (fun hc173 h173 => ?_) (fun hc173 h173 => ?_)
      · refine mv_nw (pc := 180) (kc_5 l D E B sa) wt_1_172 wt_1_173 wt_1_9 (kn_5) de_Sh_ofAct_180 h173 (fun q180 Mm180 eq180 eM180 h180 => ?_)
        refine mv_dup (pc := 183) de_Sh_ofAct_183 rfl ?_
        refine mv_iconst (pc := 184) (v := 1) de_Sh_ofAct_184 (by decide) ?_
        refine mv_iconst (pc := 185) (v := 1) de_Sh_ofAct_185 (by decide) ?_
        refine mv_iconst (pc := 186) (v := 1) de_Sh_ofAct_186 (by decide) ?_
        refine mv_aload_n (pc := 187) (i := 2) de_Sh_ofAct_187 rfl 2 rfl ?_
        obtain ⟨a188, ha, h188a⟩ := mj_bindE h180
        subst ha
        refine mv_getI (pc := 188) (f := 4) (kc_5 l D E B sa) (Nat.le_of_ble_eq_true rfl) wt_1_190 de_Sh_ofAct_188 h188a (fun x188 e188 h188 => ?_)
        obtain ⟨r191, Mm191, hz191, h191⟩ := mj_callE h188
        refine mv_callI (pc := 191) (n := 4) (av := [.int 1, .int 1, .int 1, .int x188]) (rest := [va_rf (some q180)]) de_Sh_ofAct_191 (cm_Sh_init l D E B sa N Mm180 q180 1 1 1 x188 _ _ hz191) wt_1_174 wt_1_175 wt_1_9 wt_1_176 rfl ⟨by decide, by decide, by decide +kernel⟩ rfl ⟨Nat.le_of_ble_eq_true rfl, Nat.le_of_ble_eq_true rfl⟩ (Nat.le_of_ble_eq_true rfl) rfl ?_
        exact mv_sub [] rfl (tb_Sh_ofAct_194 l D E B sa M0 M1 r N Mm191 (some q180) h191)
      · refine mv_null (pc := 176) de_Sh_ofAct_176 ?_
        refine mv_goto (pc := 177) (tgt := 194) de_Sh_ofAct_177 (by decide) ?_
        exact mv_sub [] rfl (tb_Sh_ofAct_194 l D E B sa M0 M1 r N Mm1 none h173)
    rw [if_neg hs23_14] at h4
    by_cases hs23_15 : v0 = 15
    · rw [if_pos hs23_15] at h4
      refine mv_tin (pc := 23) (tgt := 195) (off := 172) 15 de_Sh_ofAct_23 hs23_15 (by decide) (by decide) ?_
      refine mv_iload_n (pc := 195) (i := 1) de_Sh_ofAct_195 rfl 1 rfl ?_
      refine mv_if_eq (pc := 196) (tgt := 203) de_Sh_ofAct_196 (by decide) h4 (fun hc196 h196 => ?_) (fun hc196 h196 => ?_)
      · refine mv_nw (pc := 203) (kc_5 l D E B sa) wt_1_172 wt_1_173 wt_1_9 (kn_5) de_Sh_ofAct_203 h196 (fun q203 Mm203 eq203 eM203 h203 => ?_)
        refine mv_dup (pc := 206) de_Sh_ofAct_206 rfl ?_
        refine mv_iconst (pc := 207) (v := 0) de_Sh_ofAct_207 (by decide) ?_
        refine mv_iconst (pc := 208) (v := 1) de_Sh_ofAct_208 (by decide) ?_
        refine mv_iconst (pc := 209) (v := 1) de_Sh_ofAct_209 (by decide) ?_
        refine mv_iconst (pc := 210) (v := 1) de_Sh_ofAct_210 (by decide) ?_
        obtain ⟨r211, Mm211, hz211, h211⟩ := mj_callE h203
        refine mv_callI (pc := 211) (n := 4) (av := [.int 0, .int 1, .int 1, .int 1]) (rest := [va_rf (some q203)]) de_Sh_ofAct_211 (cm_Sh_init l D E B sa N Mm203 q203 0 1 1 1 _ _ hz211) wt_1_174 wt_1_175 wt_1_9 wt_1_176 rfl ⟨by decide, by decide, by decide +kernel⟩ rfl ⟨Nat.le_of_ble_eq_true rfl, Nat.le_of_ble_eq_true rfl⟩ (Nat.le_of_ble_eq_true rfl) rfl ?_
        exact mv_sub [] rfl (tb_Sh_ofAct_214 l D E B sa M0 M1 r N Mm211 (some q203) h211)
      · refine mv_null (pc := 199) de_Sh_ofAct_199 ?_
        refine mv_goto (pc := 200) (tgt := 214) de_Sh_ofAct_200 (by decide) ?_
        exact mv_sub [] rfl (tb_Sh_ofAct_214 l D E B sa M0 M1 r N Mm1 none h196)
    rw [if_neg hs23_15] at h4
    have qhs23_5 := lv_neT (a := 5) hs23_5 (by decide)
    have qhs23_6 := lv_neT (a := 6) hs23_6 (by decide)
    have qhs23_7 := lv_neT (a := 7) hs23_7 (by decide)
    have qhs23_8 := lv_neT (a := 8) hs23_8 (by decide)
    have qhs23_9 := lv_neT (a := 9) hs23_9 (by decide)
    have qhs23_10 := lv_neT (a := 10) hs23_10 (by decide)
    have qhs23_11 := lv_neT (a := 11) hs23_11 (by decide)
    have qhs23_12 := lv_neT (a := 12) hs23_12 (by decide)
    have qhs23_13 := lv_neT (a := 13) hs23_13 (by decide)
    have qhs23_14 := lv_neT (a := 14) hs23_14 (by decide)
    have qhs23_15 := lv_neT (a := 15) hs23_15 (by decide)
    refine mv_tout (pc := 23) (tgt := 215) de_Sh_ofAct_23 (by omega) (by decide) ?_
    refine mv_iload_n (pc := 215) (i := 1) de_Sh_ofAct_215 rfl 1 rfl ?_
    refine mv_if_eq (pc := 216) (tgt := 223) de_Sh_ofAct_216 (by decide) h4 (fun hc216 h216 => ?_) (fun hc216 h216 => ?_)
    · refine mv_aload_n (pc := 223) (i := 2) de_Sh_ofAct_223 rfl 2 rfl ?_
      exact mv_sub [] rfl (tb_Sh_ofAct_224 l D E B sa M0 M1 r N Mm1 v2 h216)
    · refine mv_null (pc := 219) de_Sh_ofAct_219 ?_
      refine mv_goto (pc := 220) (tgt := 224) de_Sh_ofAct_220 (by decide) ?_
      exact mv_sub [] rfl (tb_Sh_ofAct_224 l D E B sa M0 M1 r N Mm1 none h216)
  · refine mv_aload_n (pc := 7) (i := 3) de_Sh_ofAct_7 rfl 3 rfl ?_
    refine mv_ifnonnull (pc := 8) (tgt := 15) de_Sh_ofAct_8 (by decide) h4 (fun ha h8 => ?_) (fun a8 ha h8 => ?_)
    · subst ha
      refine mv_null (pc := 11) de_Sh_ofAct_11 ?_
      refine mv_goto (pc := 12) (tgt := 21) de_Sh_ofAct_12 (by decide) ?_
      exact mv_sub [] rfl (tb_Sh_ofAct_21 l D E B sa M0 M1 r N Mm1 none h8)
    · subst ha
      refine mv_iload_n (pc := 15) (i := 0) de_Sh_ofAct_15 rfl 0 rfl ?_
      refine mv_aload_n (pc := 16) (i := 2) de_Sh_ofAct_16 rfl 2 rfl ?_
      refine mv_aload_n (pc := 17) (i := 3) de_Sh_ofAct_17 rfl 3 rfl ?_
      obtain ⟨r18, Mm18, hz18, h18⟩ := mj_callE h8
      refine mv_callS (pc := 18) (n := 3) (av := [.int v0, va_rf v2, va_rf (some a8)]) (rest := []) de_Sh_ofAct_18 (cm_Sh_ofTwo l D E B sa N Mm1 v0 v2 (some a8) _ _ hz18) wt_2_78 wt_2_79 wt_1_9 wt_2_80 ⟨by decide, by decide, by decide +kernel⟩ rfl ⟨Nat.le_of_ble_eq_true rfl, Nat.le_of_ble_eq_true rfl⟩ (Nat.le_of_ble_eq_true rfl) rfl ?_
      exact mv_sub [] rfl (tb_Sh_ofAct_21 l D E B sa M0 M1 r N Mm18 r18 h18)
theorem cm_Sh_ofAct (l : Launch) (D : va_G) (E : Nat → ClassId) (B : Nat) (sa : (Nat → Nat) × Nat × (Nat → Int32)) (N : Nat) (M : mv_M) (v0 : Int32) (v1 : Int32) (v2 : Option Nat) (v3 : Option Nat) (r : Option Nat) (M1 : mv_M) (hJ : jf_Sh_ofAct N M v0 v1 v2 v3 = some (r, M1)) : mv_Met (xg l D E B sa) yn_Sh_ofAct cd_Sh_ofAct 4 (some (.object "PlainLearner$Shape")) 3 67 [.int v0, .int v1, va_rf v2, va_rf v3] M (some (va_rf r)) M1 := by
  cases v2 <;> cases v3 <;> exact mv_enter (by decide) (Nat.le_of_ble_eq_true rfl) (mv_sub [0, 1, 2, 3] rfl (tb_Sh_ofAct_0 l D E B sa M M1 r N M _ _ _ _ hJ))
/-! ===== PlainLearner$View.<init>(IIIII)V ===== -/
abbrev kd_Vw_init : mv_Kd := (cd_Vw_init, 6, "PlainLearner$View", "<init>", none, 1, 20)
theorem de_Vw_init_0 : decode cd_Vw_init 0 = .ok (.aload_n 0, 1) := by decide +kernel
theorem de_Vw_init_1 : decode cd_Vw_init 1 = .ok (.invokespecial 1, 3) := by decide +kernel
theorem de_Vw_init_4 : decode cd_Vw_init 4 = .ok (.aload_n 0, 1) := by decide +kernel
theorem de_Vw_init_5 : decode cd_Vw_init 5 = .ok (.iload_n 1, 1) := by decide +kernel
theorem de_Vw_init_6 : decode cd_Vw_init 6 = .ok (.putfield 7, 3) := by decide +kernel
theorem de_Vw_init_9 : decode cd_Vw_init 9 = .ok (.aload_n 0, 1) := by decide +kernel
theorem de_Vw_init_10 : decode cd_Vw_init 10 = .ok (.iload_n 2, 1) := by decide +kernel
theorem de_Vw_init_11 : decode cd_Vw_init 11 = .ok (.putfield 13, 3) := by decide +kernel
theorem de_Vw_init_14 : decode cd_Vw_init 14 = .ok (.aload_n 0, 1) := by decide +kernel
theorem de_Vw_init_15 : decode cd_Vw_init 15 = .ok (.iload_n 3, 1) := by decide +kernel
theorem de_Vw_init_16 : decode cd_Vw_init 16 = .ok (.putfield 16, 3) := by decide +kernel
theorem de_Vw_init_19 : decode cd_Vw_init 19 = .ok (.aload_n 0, 1) := by decide +kernel
theorem de_Vw_init_20 : decode cd_Vw_init 20 = .ok (.iload 4, 2) := by decide +kernel
theorem de_Vw_init_22 : decode cd_Vw_init 22 = .ok (.putfield 19, 3) := by decide +kernel
theorem de_Vw_init_25 : decode cd_Vw_init 25 = .ok (.aload_n 0, 1) := by decide +kernel
theorem de_Vw_init_26 : decode cd_Vw_init 26 = .ok (.iload 5, 2) := by decide +kernel
theorem de_Vw_init_28 : decode cd_Vw_init 28 = .ok (.putfield 22, 3) := by decide +kernel
theorem de_Vw_init_31 : decode cd_Vw_init 31 = .ok (.return_, 1) := by decide +kernel
def jb_Vw_init_0 (N : Nat) (M : mv_M) (v0 : Nat) (v1 : Int32) (v2 : Int32) (v3 : Int32) (v4 : Int32) (v5 : Int32) : Option (Unit × mv_M) :=
  Option.bind (mj_put M v0 9 0 (.int v1)) fun Mm6 =>
  Option.bind (mj_put Mm6 v0 9 1 (.int v2)) fun Mm11 =>
  Option.bind (mj_put Mm11 v0 9 2 (.int v3)) fun Mm16 =>
  Option.bind (mj_put Mm16 v0 9 3 (.int v4)) fun Mm22 =>
  Option.bind (mj_put Mm22 v0 9 4 (.int v5)) fun Mm28 =>
  some ((), Mm28)
def jf_Vw_init (N : Nat) (M : mv_M) (v0 : Nat) (v1 : Int32) (v2 : Int32) (v3 : Int32) (v4 : Int32) (v5 : Int32) : Option (Unit × mv_M) := jb_Vw_init_0 N M v0 v1 v2 v3 v4 v5
set_option maxHeartbeats 4000000 in
set_option maxRecDepth 100000 in
theorem tb_Vw_init_0 (l : Launch) (D : va_G) (E : Nat → ClassId) (B : Nat) (sa : (Nat → Nat) × Nat × (Nat → Int32)) (M0 M1 : mv_M) (r : Unit) (N : Nat) (M : mv_M) (v0 : Nat) (v1 : Int32) (v2 : Int32) (v3 : Int32) (v4 : Int32) (v5 : Int32) (hJ : jb_Vw_init_0 N M v0 v1 v2 v3 v4 v5 = some (r, M1)) : mv_G (xg l D E B sa) kd_Vw_init M0 M1 none M 0 [(0, va_rf (some v0)), (1, .int v1), (2, .int v2), (3, .int v3), (4, .int v4), (5, .int v5)] [] := by
  unfold jb_Vw_init_0 at hJ
  refine mv_aload_n (pc := 0) (i := 0) de_Vw_init_0 rfl 0 rfl ?_
  refine mv_objInit (pc := 1) wt_2_114 wt_1_23 wt_1_24 de_Vw_init_1 (Nat.le_of_ble_eq_true rfl) (Nat.le_of_ble_eq_true rfl) (Nat.le_of_ble_eq_true rfl) ?_
  refine mv_aload_n (pc := 4) (i := 0) de_Vw_init_4 rfl 0 rfl ?_
  refine mv_iload_n (pc := 5) (i := 1) de_Vw_init_5 rfl 1 rfl ?_
  refine mv_putF (pc := 6) (f := 0) (kc_9 l D E B sa) (Nat.le_of_ble_eq_true rfl) wt_2_115 rfl rfl rfl rfl rfl de_Vw_init_6 hJ (fun Mm6 e6 h6 => ?_)
  refine mv_aload_n (pc := 9) (i := 0) de_Vw_init_9 rfl 0 rfl ?_
  refine mv_iload_n (pc := 10) (i := 2) de_Vw_init_10 rfl 2 rfl ?_
  refine mv_putF (pc := 11) (f := 1) (kc_9 l D E B sa) (Nat.le_of_ble_eq_true rfl) wt_2_116 rfl rfl rfl rfl rfl de_Vw_init_11 h6 (fun Mm11 e11 h11 => ?_)
  refine mv_aload_n (pc := 14) (i := 0) de_Vw_init_14 rfl 0 rfl ?_
  refine mv_iload_n (pc := 15) (i := 3) de_Vw_init_15 rfl 3 rfl ?_
  refine mv_putF (pc := 16) (f := 2) (kc_9 l D E B sa) (Nat.le_of_ble_eq_true rfl) wt_2_117 rfl rfl rfl rfl rfl de_Vw_init_16 h11 (fun Mm16 e16 h16 => ?_)
  refine mv_aload_n (pc := 19) (i := 0) de_Vw_init_19 rfl 0 rfl ?_
  refine mv_iload (pc := 20) de_Vw_init_20 4 rfl ?_
  refine mv_putF (pc := 22) (f := 3) (kc_9 l D E B sa) (Nat.le_of_ble_eq_true rfl) wt_2_118 rfl rfl rfl rfl rfl de_Vw_init_22 h16 (fun Mm22 e22 h22 => ?_)
  refine mv_aload_n (pc := 25) (i := 0) de_Vw_init_25 rfl 0 rfl ?_
  refine mv_iload (pc := 26) de_Vw_init_26 5 rfl ?_
  refine mv_putF (pc := 28) (f := 4) (kc_9 l D E B sa) (Nat.le_of_ble_eq_true rfl) wt_2_119 rfl rfl rfl rfl rfl de_Vw_init_28 h22 (fun Mm28 e28 h28 => ?_)
  exact mv_vret (pc := 31) rfl de_Vw_init_31 h28
theorem cm_Vw_init (l : Launch) (D : va_G) (E : Nat → ClassId) (B : Nat) (sa : (Nat → Nat) × Nat × (Nat → Int32)) (N : Nat) (M : mv_M) (v0 : Nat) (v1 : Int32) (v2 : Int32) (v3 : Int32) (v4 : Int32) (v5 : Int32) (r : Unit) (M1 : mv_M) (hJ : jf_Vw_init N M v0 v1 v2 v3 v4 v5 = some (r, M1)) : mv_Met (xg l D E B sa) yn_Vw_init cd_Vw_init 6 none 1 20 [va_rf (some v0), .int v1, .int v2, .int v3, .int v4, .int v5] M none M1 :=
  mv_enter (by decide) (Nat.le_of_ble_eq_true rfl) (mv_sub (lv := [(0, va_rf (some v0)), (1, .int v1), (2, .int v2), (3, .int v3), (4, .int v4), (5, .int v5)]) [0, 1, 2, 3, 4, 5] rfl (tb_Vw_init_0 l D E B sa M M1 r N M v0 v1 v2 v3 v4 v5 hJ))
/-! ===== PlainLearner$Shape.stepAt(I)I ===== -/
abbrev kd_Sh_stepAt : mv_Kd := (cd_Sh_stepAt, 2, "PlainLearner$Shape", "stepAt", (some .int), 0, 0)
theorem de_Sh_stepAt_0 : decode cd_Sh_stepAt 0 = .ok (.iload_n 1, 1) := by decide +kernel
theorem de_Sh_stepAt_1 : decode cd_Sh_stepAt 1 = .ok (.ifCond .ne 15, 3) := by decide +kernel
theorem de_Sh_stepAt_4 : decode cd_Sh_stepAt 4 = .ok (.aload_n 0, 1) := by decide +kernel
theorem de_Sh_stepAt_5 : decode cd_Sh_stepAt 5 = .ok (.getfield 16, 3) := by decide +kernel
theorem de_Sh_stepAt_8 : decode cd_Sh_stepAt 8 = .ok (.aload_n 0, 1) := by decide +kernel
theorem de_Sh_stepAt_9 : decode cd_Sh_stepAt 9 = .ok (.getfield 19, 3) := by decide +kernel
theorem de_Sh_stepAt_12 : decode cd_Sh_stepAt 12 = .ok (.imul, 1) := by decide +kernel
theorem de_Sh_stepAt_13 : decode cd_Sh_stepAt 13 = .ok (.goto 16, 3) := by decide +kernel
theorem de_Sh_stepAt_16 : decode cd_Sh_stepAt 16 = .ok (.iload_n 1, 1) := by decide +kernel
theorem de_Sh_stepAt_17 : decode cd_Sh_stepAt 17 = .ok (.iconst 1, 1) := by decide +kernel
theorem de_Sh_stepAt_18 : decode cd_Sh_stepAt 18 = .ok (.if_icmp .ne 10, 3) := by decide +kernel
theorem de_Sh_stepAt_21 : decode cd_Sh_stepAt 21 = .ok (.aload_n 0, 1) := by decide +kernel
theorem de_Sh_stepAt_22 : decode cd_Sh_stepAt 22 = .ok (.getfield 19, 3) := by decide +kernel
theorem de_Sh_stepAt_25 : decode cd_Sh_stepAt 25 = .ok (.goto 4, 3) := by decide +kernel
theorem de_Sh_stepAt_28 : decode cd_Sh_stepAt 28 = .ok (.iconst 1, 1) := by decide +kernel
theorem de_Sh_stepAt_29 : decode cd_Sh_stepAt 29 = .ok (.ireturn, 1) := by decide +kernel
def jb_Sh_stepAt_29 (N : Nat) (M : mv_M) (s0 : Int32) : Option (Int32 × mv_M) :=
  some (s0, M)
def jb_Sh_stepAt_0 (N : Nat) (M : mv_M) (v0 : Nat) (v1 : Int32) : Option (Int32 × mv_M) :=
  if v1 = 0 then (Option.bind (mj_getI M v0 5 2) fun x5 =>
  Option.bind (mj_getI M v0 5 3) fun x9 =>
  jb_Sh_stepAt_29 N M (x5 * x9)) else
  if v1 = 1 then (Option.bind (mj_getI M v0 5 3) fun x22 =>
  jb_Sh_stepAt_29 N M x22) else
  jb_Sh_stepAt_29 N M 1
def jf_Sh_stepAt (N : Nat) (M : mv_M) (v0 : Nat) (v1 : Int32) : Option (Int32 × mv_M) := jb_Sh_stepAt_0 N M v0 v1
set_option maxHeartbeats 4000000 in
set_option maxRecDepth 100000 in
theorem tb_Sh_stepAt_29 (l : Launch) (D : va_G) (E : Nat → ClassId) (B : Nat) (sa : (Nat → Nat) × Nat × (Nat → Int32)) (M0 M1 : mv_M) (r : Int32) (N : Nat) (M : mv_M) (s0 : Int32) (hJ : jb_Sh_stepAt_29 N M s0 = some (r, M1)) : mv_G (xg l D E B sa) kd_Sh_stepAt M0 M1 (some (.int r)) M 29 [] [.int s0] := by
  unfold jb_Sh_stepAt_29 at hJ
  exact mv_iret (pc := 29) rfl de_Sh_stepAt_29 hJ
set_option maxHeartbeats 4000000 in
set_option maxRecDepth 100000 in
theorem tb_Sh_stepAt_0 (l : Launch) (D : va_G) (E : Nat → ClassId) (B : Nat) (sa : (Nat → Nat) × Nat × (Nat → Int32)) (M0 M1 : mv_M) (r : Int32) (N : Nat) (M : mv_M) (v0 : Nat) (v1 : Int32) (hJ : jb_Sh_stepAt_0 N M v0 v1 = some (r, M1)) : mv_G (xg l D E B sa) kd_Sh_stepAt M0 M1 (some (.int r)) M 0 [(0, va_rf (some v0)), (1, .int v1)] [] := by
  unfold jb_Sh_stepAt_0 at hJ
  refine mv_iload_n (pc := 0) (i := 1) de_Sh_stepAt_0 rfl 1 rfl ?_
  refine mv_if_ne (pc := 1) (tgt := 16) de_Sh_stepAt_1 (by decide) hJ (fun hc1 h1 => ?_) (fun hc1 h1 => ?_)
  · refine mv_aload_n (pc := 4) (i := 0) de_Sh_stepAt_4 rfl 0 rfl ?_
    refine mv_getI (pc := 5) (f := 2) (kc_5 l D E B sa) (Nat.le_of_ble_eq_true rfl) wt_1_184 de_Sh_stepAt_5 h1 (fun x5 e5 h5 => ?_)
    refine mv_aload_n (pc := 8) (i := 0) de_Sh_stepAt_8 rfl 0 rfl ?_
    refine mv_getI (pc := 9) (f := 3) (kc_5 l D E B sa) (Nat.le_of_ble_eq_true rfl) wt_1_187 de_Sh_stepAt_9 h5 (fun x9 e9 h9 => ?_)
    refine mv_imul (pc := 12) de_Sh_stepAt_12 ?_
    refine mv_goto (pc := 13) (tgt := 29) de_Sh_stepAt_13 (by decide) ?_
    exact mv_sub [] rfl (tb_Sh_stepAt_29 l D E B sa M0 M1 r N M (x5 * x9) h9)
  · refine mv_iload_n (pc := 16) (i := 1) de_Sh_stepAt_16 rfl 1 rfl ?_
    refine mv_iconst (pc := 17) (v := 1) de_Sh_stepAt_17 (by decide) ?_
    refine mv_icmp_ne (pc := 18) (tgt := 28) de_Sh_stepAt_18 (by decide) h1 (fun hc18 h18 => ?_) (fun hc18 h18 => ?_)
    · refine mv_aload_n (pc := 21) (i := 0) de_Sh_stepAt_21 rfl 0 rfl ?_
      refine mv_getI (pc := 22) (f := 3) (kc_5 l D E B sa) (Nat.le_of_ble_eq_true rfl) wt_1_187 de_Sh_stepAt_22 h18 (fun x22 e22 h22 => ?_)
      refine mv_goto (pc := 25) (tgt := 29) de_Sh_stepAt_25 (by decide) ?_
      exact mv_sub [] rfl (tb_Sh_stepAt_29 l D E B sa M0 M1 r N M x22 h22)
    · refine mv_iconst (pc := 28) (v := 1) de_Sh_stepAt_28 (by decide) ?_
      exact mv_sub [] rfl (tb_Sh_stepAt_29 l D E B sa M0 M1 r N M 1 h18)
theorem cm_Sh_stepAt (l : Launch) (D : va_G) (E : Nat → ClassId) (B : Nat) (sa : (Nat → Nat) × Nat × (Nat → Int32)) (N : Nat) (M : mv_M) (v0 : Nat) (v1 : Int32) (r : Int32) (M1 : mv_M) (hJ : jf_Sh_stepAt N M v0 v1 = some (r, M1)) : mv_Met (xg l D E B sa) yn_Sh_stepAt cd_Sh_stepAt 2 (some .int) 0 0 [va_rf (some v0), .int v1] M (some (.int r)) M1 :=
  mv_enter (by decide) (Nat.le_of_ble_eq_true rfl) (mv_sub (lv := [(0, va_rf (some v0)), (1, .int v1)]) [0, 1] rfl (tb_Sh_stepAt_0 l D E B sa M M1 r N M v0 v1 hJ))
/-! ===== PlainLearner$View.along(LPlainLearner$Shape;II)LPlainLearner$View; ===== -/
abbrev kd_Vw_along : mv_Kd := (cd_Vw_along, 4, "PlainLearner$View", "along", (some (.object "PlainLearner$View")), 2, 45)
theorem de_Vw_along_0 : decode cd_Vw_along 0 = .ok (.aload_n 0, 1) := by decide +kernel
theorem de_Vw_along_1 : decode cd_Vw_along 1 = .ok (.iload_n 1, 1) := by decide +kernel
theorem de_Vw_along_2 : decode cd_Vw_along 2 = .ok (.invokevirtual 39, 3) := by decide +kernel
theorem de_Vw_along_5 : decode cd_Vw_along 5 = .ok (.istore_n 3, 1) := by decide +kernel
theorem de_Vw_along_6 : decode cd_Vw_along 6 = .ok (.new 8, 3) := by decide +kernel
theorem de_Vw_along_9 : decode cd_Vw_along 9 = .ok (.dup, 1) := by decide +kernel
theorem de_Vw_along_10 : decode cd_Vw_along 10 = .ok (.iload_n 2, 1) := by decide +kernel
theorem de_Vw_along_11 : decode cd_Vw_along 11 = .ok (.iload_n 3, 1) := by decide +kernel
theorem de_Vw_along_12 : decode cd_Vw_along 12 = .ok (.imul, 1) := by decide +kernel
theorem de_Vw_along_13 : decode cd_Vw_along 13 = .ok (.iconst 0, 1) := by decide +kernel
theorem de_Vw_along_14 : decode cd_Vw_along 14 = .ok (.aload_n 0, 1) := by decide +kernel
theorem de_Vw_along_15 : decode cd_Vw_along 15 = .ok (.iload_n 1, 1) := by decide +kernel
theorem de_Vw_along_16 : decode cd_Vw_along 16 = .ok (.ifCond .ne 7, 3) := by decide +kernel
theorem de_Vw_along_19 : decode cd_Vw_along 19 = .ok (.iconst 1, 1) := by decide +kernel
theorem de_Vw_along_20 : decode cd_Vw_along 20 = .ok (.goto 4, 3) := by decide +kernel
theorem de_Vw_along_23 : decode cd_Vw_along 23 = .ok (.iconst 0, 1) := by decide +kernel
theorem de_Vw_along_24 : decode cd_Vw_along 24 = .ok (.invokevirtual 39, 3) := by decide +kernel
theorem de_Vw_along_27 : decode cd_Vw_along 27 = .ok (.aload_n 0, 1) := by decide +kernel
theorem de_Vw_along_28 : decode cd_Vw_along 28 = .ok (.iload_n 1, 1) := by decide +kernel
theorem de_Vw_along_29 : decode cd_Vw_along 29 = .ok (.iconst 2, 1) := by decide +kernel
theorem de_Vw_along_30 : decode cd_Vw_along 30 = .ok (.if_icmp .ne 7, 3) := by decide +kernel
theorem de_Vw_along_33 : decode cd_Vw_along 33 = .ok (.iconst 1, 1) := by decide +kernel
theorem de_Vw_along_34 : decode cd_Vw_along 34 = .ok (.goto 4, 3) := by decide +kernel
theorem de_Vw_along_37 : decode cd_Vw_along 37 = .ok (.iconst 2, 1) := by decide +kernel
theorem de_Vw_along_38 : decode cd_Vw_along 38 = .ok (.invokevirtual 39, 3) := by decide +kernel
theorem de_Vw_along_41 : decode cd_Vw_along 41 = .ok (.iload_n 3, 1) := by decide +kernel
theorem de_Vw_along_42 : decode cd_Vw_along 42 = .ok (.invokespecial 28, 3) := by decide +kernel
theorem de_Vw_along_45 : decode cd_Vw_along 45 = .ok (.areturn, 1) := by decide +kernel
def jb_Vw_along_38 (N : Nat) (M : mv_M) (v3 : Int32) (s0 : Nat) (s1 : Nat) (s2 : Int32) (s3 : Int32) (s4 : Int32) (s5 : Option Nat) (s6 : Int32) : Option (Option Nat × mv_M) :=
  Option.bind s5 fun a38 =>
  mj_ob M a38 5 <|
  mj_call (jf_Sh_stepAt N M a38 s6) fun r38 Mm38 =>
  mj_call (jf_Vw_init N Mm38 s1 s2 s3 s4 r38 v3) fun r42 Mm42 =>
  some ((some s0), Mm42)
def jb_Vw_along_24 (N : Nat) (M : mv_M) (v0 : Option Nat) (v1 : Int32) (v3 : Int32) (s0 : Nat) (s1 : Nat) (s2 : Int32) (s3 : Int32) (s4 : Option Nat) (s5 : Int32) : Option (Option Nat × mv_M) :=
  Option.bind s4 fun a24 =>
  mj_ob M a24 5 <|
  mj_call (jf_Sh_stepAt N M a24 s5) fun r24 Mm24 =>
  if v1 = 2 then (jb_Vw_along_38 N Mm24 v3 s0 s1 s2 s3 r24 v0 1) else
  jb_Vw_along_38 N Mm24 v3 s0 s1 s2 s3 r24 v0 2
def jb_Vw_along_0 (N : Nat) (M : mv_M) (v0 : Option Nat) (v1 : Int32) (v2 : Int32) : Option (Option Nat × mv_M) :=
  Option.bind v0 fun a2 =>
  mj_ob M a2 5 <|
  mj_call (jf_Sh_stepAt N M a2 v1) fun r2 Mm2 =>
  mj_nw Mm2 9 5 [.int 0, .int 0, .int 0, .int 0, .int 0] fun q6 Mm6 =>
  if v1 = 0 then (jb_Vw_along_24 N Mm6 (some a2) v1 r2 q6 q6 (v2 * r2) 0 (some a2) 1) else
  jb_Vw_along_24 N Mm6 (some a2) v1 r2 q6 q6 (v2 * r2) 0 (some a2) 0
def jf_Vw_along (N : Nat) (M : mv_M) (v0 : Option Nat) (v1 : Int32) (v2 : Int32) : Option (Option Nat × mv_M) := jb_Vw_along_0 N M v0 v1 v2
set_option maxHeartbeats 4000000 in
set_option maxRecDepth 100000 in
theorem tb_Vw_along_38 (l : Launch) (D : va_G) (E : Nat → ClassId) (B : Nat) (sa : (Nat → Nat) × Nat × (Nat → Int32)) (M0 M1 : mv_M) (r : Option Nat) (N : Nat) (M : mv_M) (v3 : Int32) (s0 : Nat) (s1 : Nat) (s2 : Int32) (s3 : Int32) (s4 : Int32) (s5 : Option Nat) (s6 : Int32) (hJ : jb_Vw_along_38 N M v3 s0 s1 s2 s3 s4 s5 s6 = some (r, M1)) : mv_G (xg l D E B sa) kd_Vw_along M0 M1 (some (va_rf r)) M 38 [(3, .int v3)] [.int s6, va_rf s5, .int s4, .int s3, .int s2, va_rf (some s1), va_rf (some s0)] := by
  unfold jb_Vw_along_38 at hJ
  obtain ⟨a38, ha, h38a⟩ := mj_bindE hJ
  subst ha
  obtain ⟨hi38, h38o⟩ := mj_obE h38a
  obtain ⟨r38, Mm38, hz38, h38⟩ := mj_callE h38o
  refine mv_callV (pc := 38) (n := 1) (av := [.int s6]) (rest := [.int s4, .int s3, .int s2, va_rf (some s1), va_rf (some s0)]) de_Vw_along_38 (kc_5 l D E B sa) hi38 (cm_Sh_stepAt l D E B sa N M a38 s6 _ _ hz38) wt_2_136 wt_2_137 wt_2_138 wt_1_9 wt_2_139 ⟨by decide, by decide, by decide +kernel⟩ rfl ⟨Nat.le_of_ble_eq_true rfl, Nat.le_of_ble_eq_true rfl⟩ (Nat.le_of_ble_eq_true rfl) rfl ?_
  refine mv_iload_n (pc := 41) (i := 3) de_Vw_along_41 rfl 0 rfl ?_
  obtain ⟨r42, Mm42, hz42, h42⟩ := mj_callE h38
  refine mv_callI (pc := 42) (n := 5) (av := [.int s2, .int s3, .int s4, .int r38, .int v3]) (rest := [va_rf (some s0)]) de_Vw_along_42 (cm_Vw_init l D E B sa N Mm38 s1 s2 s3 s4 r38 v3 _ _ hz42) wt_2_111 wt_2_112 wt_1_14 wt_2_113 rfl ⟨by decide, by decide, by decide +kernel⟩ rfl ⟨Nat.le_of_ble_eq_true rfl, Nat.le_of_ble_eq_true rfl⟩ (Nat.le_of_ble_eq_true rfl) rfl ?_
  exact mv_aret (pc := 45) rfl (Or.inl ⟨_, rfl⟩) de_Vw_along_45 h42
set_option maxHeartbeats 4000000 in
set_option maxRecDepth 100000 in
theorem tb_Vw_along_24 (l : Launch) (D : va_G) (E : Nat → ClassId) (B : Nat) (sa : (Nat → Nat) × Nat × (Nat → Int32)) (M0 M1 : mv_M) (r : Option Nat) (N : Nat) (M : mv_M) (v0 : Option Nat) (v1 : Int32) (v3 : Int32) (s0 : Nat) (s1 : Nat) (s2 : Int32) (s3 : Int32) (s4 : Option Nat) (s5 : Int32) (hJ : jb_Vw_along_24 N M v0 v1 v3 s0 s1 s2 s3 s4 s5 = some (r, M1)) : mv_G (xg l D E B sa) kd_Vw_along M0 M1 (some (va_rf r)) M 24 [(0, va_rf v0), (1, .int v1), (3, .int v3)] [.int s5, va_rf s4, .int s3, .int s2, va_rf (some s1), va_rf (some s0)] := by
  unfold jb_Vw_along_24 at hJ
  obtain ⟨a24, ha, h24a⟩ := mj_bindE hJ
  subst ha
  obtain ⟨hi24, h24o⟩ := mj_obE h24a
  obtain ⟨r24, Mm24, hz24, h24⟩ := mj_callE h24o
  refine mv_callV (pc := 24) (n := 1) (av := [.int s5]) (rest := [.int s3, .int s2, va_rf (some s1), va_rf (some s0)]) de_Vw_along_24 (kc_5 l D E B sa) hi24 (cm_Sh_stepAt l D E B sa N M a24 s5 _ _ hz24) wt_2_136 wt_2_137 wt_2_138 wt_1_9 wt_2_139 ⟨by decide, by decide, by decide +kernel⟩ rfl ⟨Nat.le_of_ble_eq_true rfl, Nat.le_of_ble_eq_true rfl⟩ (Nat.le_of_ble_eq_true rfl) rfl ?_
  refine mv_aload_n (pc := 27) (i := 0) de_Vw_along_27 rfl 0 rfl ?_
  refine mv_iload_n (pc := 28) (i := 1) de_Vw_along_28 rfl 1 rfl ?_
  refine mv_iconst (pc := 29) (v := 2) de_Vw_along_29 (by decide) ?_
  refine mv_icmp_ne (pc := 30) (tgt := 37) de_Vw_along_30 (by decide) h24 (fun hc30 h30 => ?_) (fun hc30 h30 => ?_)
  · refine mv_iconst (pc := 33) (v := 1) de_Vw_along_33 (by decide) ?_
    refine mv_goto (pc := 34) (tgt := 38) de_Vw_along_34 (by decide) ?_
    exact mv_sub [2] rfl (tb_Vw_along_38 l D E B sa M0 M1 r N Mm24 v3 s0 s1 s2 s3 r24 v0 1 h30)
  · refine mv_iconst (pc := 37) (v := 2) de_Vw_along_37 (by decide) ?_
    exact mv_sub [2] rfl (tb_Vw_along_38 l D E B sa M0 M1 r N Mm24 v3 s0 s1 s2 s3 r24 v0 2 h30)
set_option maxHeartbeats 4000000 in
set_option maxRecDepth 100000 in
theorem tb_Vw_along_0 (l : Launch) (D : va_G) (E : Nat → ClassId) (B : Nat) (sa : (Nat → Nat) × Nat × (Nat → Int32)) (M0 M1 : mv_M) (r : Option Nat) (N : Nat) (M : mv_M) (v0 : Option Nat) (v1 : Int32) (v2 : Int32) (hJ : jb_Vw_along_0 N M v0 v1 v2 = some (r, M1)) : mv_G (xg l D E B sa) kd_Vw_along M0 M1 (some (va_rf r)) M 0 [(0, va_rf v0), (1, .int v1), (2, .int v2)] [] := by
  unfold jb_Vw_along_0 at hJ
  refine mv_aload_n (pc := 0) (i := 0) de_Vw_along_0 rfl 0 rfl ?_
  refine mv_iload_n (pc := 1) (i := 1) de_Vw_along_1 rfl 1 rfl ?_
  obtain ⟨a2, ha, h2a⟩ := mj_bindE hJ
  subst ha
  obtain ⟨hi2, h2o⟩ := mj_obE h2a
  obtain ⟨r2, Mm2, hz2, h2⟩ := mj_callE h2o
  refine mv_callV (pc := 2) (n := 1) (av := [.int v1]) (rest := []) de_Vw_along_2 (kc_5 l D E B sa) hi2 (cm_Sh_stepAt l D E B sa N M a2 v1 _ _ hz2) wt_2_136 wt_2_137 wt_2_138 wt_1_9 wt_2_139 ⟨by decide, by decide, by decide +kernel⟩ rfl ⟨Nat.le_of_ble_eq_true rfl, Nat.le_of_ble_eq_true rfl⟩ (Nat.le_of_ble_eq_true rfl) rfl ?_
  refine mv_istore_n (pc := 5) (i := 3) (lv' := [(3, .int r2), (0, va_rf (some a2)), (1, .int v1), (2, .int v2)]) de_Vw_along_5 rfl (Nat.le_of_ble_eq_true rfl) rfl ?_
  refine mv_nw (pc := 6) (kc_9 l D E B sa) wt_2_109 wt_2_110 wt_1_14 (kn_9) de_Vw_along_6 h2 (fun q6 Mm6 eq6 eM6 h6 => ?_)
  refine mv_dup (pc := 9) de_Vw_along_9 rfl ?_
  refine mv_iload_n (pc := 10) (i := 2) de_Vw_along_10 rfl 3 rfl ?_
  refine mv_iload_n (pc := 11) (i := 3) de_Vw_along_11 rfl 0 rfl ?_
  refine mv_imul (pc := 12) de_Vw_along_12 ?_
  refine mv_iconst (pc := 13) (v := 0) de_Vw_along_13 (by decide) ?_
  refine mv_aload_n (pc := 14) (i := 0) de_Vw_along_14 rfl 1 rfl ?_
  refine mv_iload_n (pc := 15) (i := 1) de_Vw_along_15 rfl 2 rfl ?_
  refine mv_if_ne (pc := 16) (tgt := 23) de_Vw_along_16 (by decide) h6 (fun hc16 h16 => ?_) (fun hc16 h16 => ?_)
  · refine mv_iconst (pc := 19) (v := 1) de_Vw_along_19 (by decide) ?_
    refine mv_goto (pc := 20) (tgt := 24) de_Vw_along_20 (by decide) ?_
    exact mv_sub [1, 2, 0] rfl (tb_Vw_along_24 l D E B sa M0 M1 r N Mm6 (some a2) v1 r2 q6 q6 (v2 * r2) 0 (some a2) 1 h16)
  · refine mv_iconst (pc := 23) (v := 0) de_Vw_along_23 (by decide) ?_
    exact mv_sub [1, 2, 0] rfl (tb_Vw_along_24 l D E B sa M0 M1 r N Mm6 (some a2) v1 r2 q6 q6 (v2 * r2) 0 (some a2) 0 h16)
theorem cm_Vw_along (l : Launch) (D : va_G) (E : Nat → ClassId) (B : Nat) (sa : (Nat → Nat) × Nat × (Nat → Int32)) (N : Nat) (M : mv_M) (v0 : Option Nat) (v1 : Int32) (v2 : Int32) (r : Option Nat) (M1 : mv_M) (hJ : jf_Vw_along N M v0 v1 v2 = some (r, M1)) : mv_Met (xg l D E B sa) yn_Vw_along cd_Vw_along 4 (some (.object "PlainLearner$View")) 2 45 [va_rf v0, .int v1, .int v2] M (some (va_rf r)) M1 := by
  cases v0 <;> exact mv_enter (by decide) (Nat.le_of_ble_eq_true rfl) (mv_sub [0, 1, 2] rfl (tb_Vw_along_0 l D E B sa M M1 r N M _ _ _ hJ))
/-! ===== PlainLearner$View.spread(LPlainLearner$Shape;)LPlainLearner$View; ===== -/
abbrev kd_Vw_spread : mv_Kd := (cd_Vw_spread, 1, "PlainLearner$View", "spread", (some (.object "PlainLearner$View")), 2, 45)
theorem de_Vw_spread_0 : decode cd_Vw_spread 0 = .ok (.new 8, 3) := by decide +kernel
theorem de_Vw_spread_3 : decode cd_Vw_spread 3 = .ok (.dup, 1) := by decide +kernel
theorem de_Vw_spread_4 : decode cd_Vw_spread 4 = .ok (.iconst 0, 1) := by decide +kernel
theorem de_Vw_spread_5 : decode cd_Vw_spread 5 = .ok (.aload_n 0, 1) := by decide +kernel
theorem de_Vw_spread_6 : decode cd_Vw_spread 6 = .ok (.getfield 48, 3) := by decide +kernel
theorem de_Vw_spread_9 : decode cd_Vw_spread 9 = .ok (.iconst 1, 1) := by decide +kernel
theorem de_Vw_spread_10 : decode cd_Vw_spread 10 = .ok (.if_icmp .ne 7, 3) := by decide +kernel
theorem de_Vw_spread_13 : decode cd_Vw_spread 13 = .ok (.iconst 0, 1) := by decide +kernel
theorem de_Vw_spread_14 : decode cd_Vw_spread 14 = .ok (.goto 8, 3) := by decide +kernel
theorem de_Vw_spread_17 : decode cd_Vw_spread 17 = .ok (.aload_n 0, 1) := by decide +kernel
theorem de_Vw_spread_18 : decode cd_Vw_spread 18 = .ok (.iconst 0, 1) := by decide +kernel
theorem de_Vw_spread_19 : decode cd_Vw_spread 19 = .ok (.invokevirtual 39, 3) := by decide +kernel
theorem de_Vw_spread_22 : decode cd_Vw_spread 22 = .ok (.aload_n 0, 1) := by decide +kernel
theorem de_Vw_spread_23 : decode cd_Vw_spread 23 = .ok (.getfield 49, 3) := by decide +kernel
theorem de_Vw_spread_26 : decode cd_Vw_spread 26 = .ok (.iconst 1, 1) := by decide +kernel
theorem de_Vw_spread_27 : decode cd_Vw_spread 27 = .ok (.if_icmp .ne 7, 3) := by decide +kernel
theorem de_Vw_spread_30 : decode cd_Vw_spread 30 = .ok (.iconst 0, 1) := by decide +kernel
theorem de_Vw_spread_31 : decode cd_Vw_spread 31 = .ok (.goto 8, 3) := by decide +kernel
theorem de_Vw_spread_34 : decode cd_Vw_spread 34 = .ok (.aload_n 0, 1) := by decide +kernel
theorem de_Vw_spread_35 : decode cd_Vw_spread 35 = .ok (.iconst 1, 1) := by decide +kernel
theorem de_Vw_spread_36 : decode cd_Vw_spread 36 = .ok (.invokevirtual 39, 3) := by decide +kernel
theorem de_Vw_spread_39 : decode cd_Vw_spread 39 = .ok (.aload_n 0, 1) := by decide +kernel
theorem de_Vw_spread_40 : decode cd_Vw_spread 40 = .ok (.getfield 25, 3) := by decide +kernel
theorem de_Vw_spread_43 : decode cd_Vw_spread 43 = .ok (.iconst 1, 1) := by decide +kernel
theorem de_Vw_spread_44 : decode cd_Vw_spread 44 = .ok (.if_icmp .ne 7, 3) := by decide +kernel
theorem de_Vw_spread_47 : decode cd_Vw_spread 47 = .ok (.iconst 0, 1) := by decide +kernel
theorem de_Vw_spread_48 : decode cd_Vw_spread 48 = .ok (.goto 4, 3) := by decide +kernel
theorem de_Vw_spread_51 : decode cd_Vw_spread 51 = .ok (.iconst 1, 1) := by decide +kernel
theorem de_Vw_spread_52 : decode cd_Vw_spread 52 = .ok (.iconst 0, 1) := by decide +kernel
theorem de_Vw_spread_53 : decode cd_Vw_spread 53 = .ok (.invokespecial 28, 3) := by decide +kernel
theorem de_Vw_spread_56 : decode cd_Vw_spread 56 = .ok (.areturn, 1) := by decide +kernel
def jb_Vw_spread_52 (N : Nat) (M : mv_M) (s0 : Nat) (s1 : Nat) (s2 : Int32) (s3 : Int32) (s4 : Int32) (s5 : Int32) : Option (Option Nat × mv_M) :=
  mj_call (jf_Vw_init N M s1 s2 s3 s4 s5 0) fun r53 Mm53 =>
  some ((some s0), Mm53)
def jb_Vw_spread_39 (N : Nat) (M : mv_M) (v0 : Option Nat) (s0 : Nat) (s1 : Nat) (s2 : Int32) (s3 : Int32) (s4 : Int32) : Option (Option Nat × mv_M) :=
  Option.bind v0 fun a40 =>
  Option.bind (mj_getI M a40 5 3) fun x40 =>
  if x40 = 1 then (jb_Vw_spread_52 N M s0 s1 s2 s3 s4 0) else
  jb_Vw_spread_52 N M s0 s1 s2 s3 s4 1
def jb_Vw_spread_22 (N : Nat) (M : mv_M) (v0 : Option Nat) (s0 : Nat) (s1 : Nat) (s2 : Int32) (s3 : Int32) : Option (Option Nat × mv_M) :=
  Option.bind v0 fun a23 =>
  Option.bind (mj_getI M a23 5 2) fun x23 =>
  if x23 = 1 then (jb_Vw_spread_39 N M (some a23) s0 s1 s2 s3 0) else
  mj_ob M a23 5 <|
  mj_call (jf_Sh_stepAt N M a23 1) fun r36 Mm36 =>
  jb_Vw_spread_39 N Mm36 (some a23) s0 s1 s2 s3 r36
def jb_Vw_spread_0 (N : Nat) (M : mv_M) (v0 : Option Nat) : Option (Option Nat × mv_M) :=
  mj_nw M 9 5 [.int 0, .int 0, .int 0, .int 0, .int 0] fun q0 Mm0 =>
  Option.bind v0 fun a6 =>
  Option.bind (mj_getI Mm0 a6 5 1) fun x6 =>
  if x6 = 1 then (jb_Vw_spread_22 N Mm0 (some a6) q0 q0 0 0) else
  mj_ob Mm0 a6 5 <|
  mj_call (jf_Sh_stepAt N Mm0 a6 0) fun r19 Mm19 =>
  jb_Vw_spread_22 N Mm19 (some a6) q0 q0 0 r19
def jf_Vw_spread (N : Nat) (M : mv_M) (v0 : Option Nat) : Option (Option Nat × mv_M) := jb_Vw_spread_0 N M v0
set_option maxHeartbeats 4000000 in
set_option maxRecDepth 100000 in
theorem tb_Vw_spread_52 (l : Launch) (D : va_G) (E : Nat → ClassId) (B : Nat) (sa : (Nat → Nat) × Nat × (Nat → Int32)) (M0 M1 : mv_M) (r : Option Nat) (N : Nat) (M : mv_M) (s0 : Nat) (s1 : Nat) (s2 : Int32) (s3 : Int32) (s4 : Int32) (s5 : Int32) (hJ : jb_Vw_spread_52 N M s0 s1 s2 s3 s4 s5 = some (r, M1)) : mv_G (xg l D E B sa) kd_Vw_spread M0 M1 (some (va_rf r)) M 52 [] [.int s5, .int s4, .int s3, .int s2, va_rf (some s1), va_rf (some s0)] := by
  unfold jb_Vw_spread_52 at hJ
  refine mv_iconst (pc := 52) (v := 0) de_Vw_spread_52 (by decide) ?_
  obtain ⟨r53, Mm53, hz53, h53⟩ := mj_callE hJ
  refine mv_callI (pc := 53) (n := 5) (av := [.int s2, .int s3, .int s4, .int s5, .int 0]) (rest := [va_rf (some s0)]) de_Vw_spread_53 (cm_Vw_init l D E B sa N M s1 s2 s3 s4 s5 0 _ _ hz53) wt_2_111 wt_2_112 wt_1_14 wt_2_113 rfl ⟨by decide, by decide, by decide +kernel⟩ rfl ⟨Nat.le_of_ble_eq_true rfl, Nat.le_of_ble_eq_true rfl⟩ (Nat.le_of_ble_eq_true rfl) rfl ?_
  exact mv_aret (pc := 56) rfl (Or.inl ⟨_, rfl⟩) de_Vw_spread_56 h53
set_option maxHeartbeats 4000000 in
set_option maxRecDepth 100000 in
theorem tb_Vw_spread_39 (l : Launch) (D : va_G) (E : Nat → ClassId) (B : Nat) (sa : (Nat → Nat) × Nat × (Nat → Int32)) (M0 M1 : mv_M) (r : Option Nat) (N : Nat) (M : mv_M) (v0 : Option Nat) (s0 : Nat) (s1 : Nat) (s2 : Int32) (s3 : Int32) (s4 : Int32) (hJ : jb_Vw_spread_39 N M v0 s0 s1 s2 s3 s4 = some (r, M1)) : mv_G (xg l D E B sa) kd_Vw_spread M0 M1 (some (va_rf r)) M 39 [(0, va_rf v0)] [.int s4, .int s3, .int s2, va_rf (some s1), va_rf (some s0)] := by
  unfold jb_Vw_spread_39 at hJ
  refine mv_aload_n (pc := 39) (i := 0) de_Vw_spread_39 rfl 0 rfl ?_
  obtain ⟨a40, ha, h40a⟩ := mj_bindE hJ
  subst ha
  refine mv_getI (pc := 40) (f := 3) (kc_5 l D E B sa) (Nat.le_of_ble_eq_true rfl) wt_1_188 de_Vw_spread_40 h40a (fun x40 e40 h40 => ?_)
  refine mv_iconst (pc := 43) (v := 1) de_Vw_spread_43 (by decide) ?_
  refine mv_icmp_ne (pc := 44) (tgt := 51) de_Vw_spread_44 (by decide) h40 (fun hc44 h44 => ?_) (fun hc44 h44 => ?_)
  · refine mv_iconst (pc := 47) (v := 0) de_Vw_spread_47 (by decide) ?_
    refine mv_goto (pc := 48) (tgt := 52) de_Vw_spread_48 (by decide) ?_
    exact mv_sub [] rfl (tb_Vw_spread_52 l D E B sa M0 M1 r N M s0 s1 s2 s3 s4 0 h44)
  · refine mv_iconst (pc := 51) (v := 1) de_Vw_spread_51 (by decide) ?_
    exact mv_sub [] rfl (tb_Vw_spread_52 l D E B sa M0 M1 r N M s0 s1 s2 s3 s4 1 h44)
set_option maxHeartbeats 4000000 in
set_option maxRecDepth 100000 in
theorem tb_Vw_spread_22 (l : Launch) (D : va_G) (E : Nat → ClassId) (B : Nat) (sa : (Nat → Nat) × Nat × (Nat → Int32)) (M0 M1 : mv_M) (r : Option Nat) (N : Nat) (M : mv_M) (v0 : Option Nat) (s0 : Nat) (s1 : Nat) (s2 : Int32) (s3 : Int32) (hJ : jb_Vw_spread_22 N M v0 s0 s1 s2 s3 = some (r, M1)) : mv_G (xg l D E B sa) kd_Vw_spread M0 M1 (some (va_rf r)) M 22 [(0, va_rf v0)] [.int s3, .int s2, va_rf (some s1), va_rf (some s0)] := by
  unfold jb_Vw_spread_22 at hJ
  refine mv_aload_n (pc := 22) (i := 0) de_Vw_spread_22 rfl 0 rfl ?_
  obtain ⟨a23, ha, h23a⟩ := mj_bindE hJ
  subst ha
  refine mv_getI (pc := 23) (f := 2) (kc_5 l D E B sa) (Nat.le_of_ble_eq_true rfl) wt_1_185 de_Vw_spread_23 h23a (fun x23 e23 h23 => ?_)
  refine mv_iconst (pc := 26) (v := 1) de_Vw_spread_26 (by decide) ?_
  refine mv_icmp_ne (pc := 27) (tgt := 34) de_Vw_spread_27 (by decide) h23 (fun hc27 h27 => ?_) (fun hc27 h27 => ?_)
  · refine mv_iconst (pc := 30) (v := 0) de_Vw_spread_30 (by decide) ?_
    refine mv_goto (pc := 31) (tgt := 39) de_Vw_spread_31 (by decide) ?_
    exact mv_sub [0] rfl (tb_Vw_spread_39 l D E B sa M0 M1 r N M (some a23) s0 s1 s2 s3 0 h27)
  · refine mv_aload_n (pc := 34) (i := 0) de_Vw_spread_34 rfl 0 rfl ?_
    refine mv_iconst (pc := 35) (v := 1) de_Vw_spread_35 (by decide) ?_
    obtain ⟨hi36, h36o⟩ := mj_obE h27
    obtain ⟨r36, Mm36, hz36, h36⟩ := mj_callE h36o
    refine mv_callV (pc := 36) (n := 1) (av := [.int 1]) (rest := [.int s3, .int s2, va_rf (some s1), va_rf (some s0)]) de_Vw_spread_36 (kc_5 l D E B sa) hi36 (cm_Sh_stepAt l D E B sa N M a23 1 _ _ hz36) wt_2_136 wt_2_137 wt_2_138 wt_1_9 wt_2_139 ⟨by decide, by decide, by decide +kernel⟩ rfl ⟨Nat.le_of_ble_eq_true rfl, Nat.le_of_ble_eq_true rfl⟩ (Nat.le_of_ble_eq_true rfl) rfl ?_
    exact mv_sub [0] rfl (tb_Vw_spread_39 l D E B sa M0 M1 r N Mm36 (some a23) s0 s1 s2 s3 r36 h36)
set_option maxHeartbeats 4000000 in
set_option maxRecDepth 100000 in
theorem tb_Vw_spread_0 (l : Launch) (D : va_G) (E : Nat → ClassId) (B : Nat) (sa : (Nat → Nat) × Nat × (Nat → Int32)) (M0 M1 : mv_M) (r : Option Nat) (N : Nat) (M : mv_M) (v0 : Option Nat) (hJ : jb_Vw_spread_0 N M v0 = some (r, M1)) : mv_G (xg l D E B sa) kd_Vw_spread M0 M1 (some (va_rf r)) M 0 [(0, va_rf v0)] [] := by
  unfold jb_Vw_spread_0 at hJ
  refine mv_nw (pc := 0) (kc_9 l D E B sa) wt_2_109 wt_2_110 wt_1_14 (kn_9) de_Vw_spread_0 hJ (fun q0 Mm0 eq0 eM0 h0 => ?_)
  refine mv_dup (pc := 3) de_Vw_spread_3 rfl ?_
  refine mv_iconst (pc := 4) (v := 0) de_Vw_spread_4 (by decide) ?_
  refine mv_aload_n (pc := 5) (i := 0) de_Vw_spread_5 rfl 0 rfl ?_
  obtain ⟨a6, ha, h6a⟩ := mj_bindE h0
  subst ha
  refine mv_getI (pc := 6) (f := 1) (kc_5 l D E B sa) (Nat.le_of_ble_eq_true rfl) wt_1_182 de_Vw_spread_6 h6a (fun x6 e6 h6 => ?_)
  refine mv_iconst (pc := 9) (v := 1) de_Vw_spread_9 (by decide) ?_
  refine mv_icmp_ne (pc := 10) (tgt := 17) de_Vw_spread_10 (by decide) h6 (fun hc10 h10 => ?_) (fun hc10 h10 => ?_)
  · refine mv_iconst (pc := 13) (v := 0) de_Vw_spread_13 (by decide) ?_
    refine mv_goto (pc := 14) (tgt := 22) de_Vw_spread_14 (by decide) ?_
    exact mv_sub [0] rfl (tb_Vw_spread_22 l D E B sa M0 M1 r N Mm0 (some a6) q0 q0 0 0 h10)
  · refine mv_aload_n (pc := 17) (i := 0) de_Vw_spread_17 rfl 0 rfl ?_
    refine mv_iconst (pc := 18) (v := 0) de_Vw_spread_18 (by decide) ?_
    obtain ⟨hi19, h19o⟩ := mj_obE h10
    obtain ⟨r19, Mm19, hz19, h19⟩ := mj_callE h19o
    refine mv_callV (pc := 19) (n := 1) (av := [.int 0]) (rest := [.int 0, va_rf (some q0), va_rf (some q0)]) de_Vw_spread_19 (kc_5 l D E B sa) hi19 (cm_Sh_stepAt l D E B sa N Mm0 a6 0 _ _ hz19) wt_2_136 wt_2_137 wt_2_138 wt_1_9 wt_2_139 ⟨by decide, by decide, by decide +kernel⟩ rfl ⟨Nat.le_of_ble_eq_true rfl, Nat.le_of_ble_eq_true rfl⟩ (Nat.le_of_ble_eq_true rfl) rfl ?_
    exact mv_sub [0] rfl (tb_Vw_spread_22 l D E B sa M0 M1 r N Mm19 (some a6) q0 q0 0 r19 h19)
theorem cm_Vw_spread (l : Launch) (D : va_G) (E : Nat → ClassId) (B : Nat) (sa : (Nat → Nat) × Nat × (Nat → Int32)) (N : Nat) (M : mv_M) (v0 : Option Nat) (r : Option Nat) (M1 : mv_M) (hJ : jf_Vw_spread N M v0 = some (r, M1)) : mv_Met (xg l D E B sa) yn_Vw_spread cd_Vw_spread 1 (some (.object "PlainLearner$View")) 2 45 [va_rf v0] M (some (va_rf r)) M1 := by
  cases v0 <;> exact mv_enter (by decide) (Nat.le_of_ble_eq_true rfl) (mv_sub [0] rfl (tb_Vw_spread_0 l D E B sa M M1 r N M _ hJ))
