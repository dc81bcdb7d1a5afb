/-! ===== PlainLearner$Scores.greatestShareRight()J ===== -/
abbrev kd_Sc_greatestShareRight : mv_Kd := (cd_Sc_greatestShareRight, 3, "PlainLearner$Scores", "greatestShareRight", (some .long), 2, 55)
theorem de_Sc_greatestShareRight_0 : decode cd_Sc_greatestShareRight 0 = .ok (.aload_n 0, 1) := by decide +kernel
theorem de_Sc_greatestShareRight_1 : decode cd_Sc_greatestShareRight 1 = .ok (.getfield 19, 3) := by decide +kernel
theorem de_Sc_greatestShareRight_4 : decode cd_Sc_greatestShareRight 4 = .ok (.aload_n 0, 1) := by decide +kernel
theorem de_Sc_greatestShareRight_5 : decode cd_Sc_greatestShareRight 5 = .ok (.invokevirtual 36, 3) := by decide +kernel
theorem de_Sc_greatestShareRight_8 : decode cd_Sc_greatestShareRight 8 = .ok (.isub, 1) := by decide +kernel
theorem de_Sc_greatestShareRight_9 : decode cd_Sc_greatestShareRight 9 = .ok (.istore_n 1, 1) := by decide +kernel
theorem de_Sc_greatestShareRight_10 : decode cd_Sc_greatestShareRight 10 = .ok (.iconst 0, 1) := by decide +kernel
theorem de_Sc_greatestShareRight_11 : decode cd_Sc_greatestShareRight 11 = .ok (.istore_n 2, 1) := by decide +kernel
theorem de_Sc_greatestShareRight_12 : decode cd_Sc_greatestShareRight 12 = .ok (.iload_n 2, 1) := by decide +kernel
theorem de_Sc_greatestShareRight_13 : decode cd_Sc_greatestShareRight 13 = .ok (.aload_n 0, 1) := by decide +kernel
theorem de_Sc_greatestShareRight_14 : decode cd_Sc_greatestShareRight 14 = .ok (.getfield 19, 3) := by decide +kernel
theorem de_Sc_greatestShareRight_17 : decode cd_Sc_greatestShareRight 17 = .ok (.if_icmp .ge 24, 3) := by decide +kernel
theorem de_Sc_greatestShareRight_20 : decode cd_Sc_greatestShareRight 20 = .ok (.iload_n 1, 1) := by decide +kernel
theorem de_Sc_greatestShareRight_21 : decode cd_Sc_greatestShareRight 21 = .ok (.aload_n 0, 1) := by decide +kernel
theorem de_Sc_greatestShareRight_22 : decode cd_Sc_greatestShareRight 22 = .ok (.aload_n 0, 1) := by decide +kernel
theorem de_Sc_greatestShareRight_23 : decode cd_Sc_greatestShareRight 23 = .ok (.getfield 11, 3) := by decide +kernel
theorem de_Sc_greatestShareRight_26 : decode cd_Sc_greatestShareRight 26 = .ok (.iload_n 2, 1) := by decide +kernel
theorem de_Sc_greatestShareRight_27 : decode cd_Sc_greatestShareRight 27 = .ok (.iaload, 1) := by decide +kernel
theorem de_Sc_greatestShareRight_28 : decode cd_Sc_greatestShareRight 28 = .ok (.invokevirtual 48, 3) := by decide +kernel
theorem de_Sc_greatestShareRight_31 : decode cd_Sc_greatestShareRight 31 = .ok (.invokestatic 52, 3) := by decide +kernel
theorem de_Sc_greatestShareRight_34 : decode cd_Sc_greatestShareRight 34 = .ok (.istore_n 1, 1) := by decide +kernel
theorem de_Sc_greatestShareRight_35 : decode cd_Sc_greatestShareRight 35 = .ok (.iinc 2 1, 3) := by decide +kernel
theorem de_Sc_greatestShareRight_38 : decode cd_Sc_greatestShareRight 38 = .ok (.goto (-26), 3) := by decide +kernel
theorem de_Sc_greatestShareRight_41 : decode cd_Sc_greatestShareRight 41 = .ok (.iload_n 1, 1) := by decide +kernel
theorem de_Sc_greatestShareRight_42 : decode cd_Sc_greatestShareRight 42 = .ok (.i2l, 1) := by decide +kernel
theorem de_Sc_greatestShareRight_43 : decode cd_Sc_greatestShareRight 43 = .ok (.aload_n 0, 1) := by decide +kernel
theorem de_Sc_greatestShareRight_44 : decode cd_Sc_greatestShareRight 44 = .ok (.getfield 19, 3) := by decide +kernel
theorem de_Sc_greatestShareRight_47 : decode cd_Sc_greatestShareRight 47 = .ok (.i2l, 1) := by decide +kernel
theorem de_Sc_greatestShareRight_48 : decode cd_Sc_greatestShareRight 48 = .ok (.invokestatic 42, 3) := by decide +kernel
theorem de_Sc_greatestShareRight_51 : decode cd_Sc_greatestShareRight 51 = .ok (.lreturn, 1) := by decide +kernel
def jb_Sc_greatestShareRight_12 (N : Nat) : Nat → mv_M → Nat → Int32 → Int32 → Option (Int64 × mv_M)
  | 0, _, _, _, _ => none
  | n + 1, M, v0, v1, v2 =>
    Option.bind (mj_getI M v0 4 2) fun x14 =>
    if x14 ≤ v2 then (Option.bind (mj_getI M v0 4 2) fun x44 =>
    mj_call (jf_Fr_of N M v1.toInt64 x44.toInt64) fun r48 Mm48 =>
    some (r48, Mm48)) else
    Option.bind (mj_getR M v0 4 0) fun x23 =>
    Option.bind x23 fun a27 =>
    Option.bind (mj_ild M a27 0 v2) fun x27 =>
    mj_ob M v0 4 <|
    mj_call (jf_Sc_countRight N M v0 x27) fun r28 Mm28 =>
    mj_call (jf_Jm_max N Mm28 v1 r28) fun r31 Mm31 =>
    jb_Sc_greatestShareRight_12 N n Mm31 v0 r31 (v2 + 1)
def jb_Sc_greatestShareRight_0 (N : Nat) (M : mv_M) (v0 : Nat) : Option (Int64 × mv_M) :=
  Option.bind (mj_getI M v0 4 2) fun x1 =>
  mj_ob M v0 4 <|
  mj_call (jf_Sc_countYes N M v0) fun r5 Mm5 =>
  jb_Sc_greatestShareRight_12 N N Mm5 v0 (x1 - r5) 0
def jf_Sc_greatestShareRight (N : Nat) (M : mv_M) (v0 : Nat) : Option (Int64 × mv_M) := jb_Sc_greatestShareRight_0 N M v0
set_option maxHeartbeats 4000000 in
set_option maxRecDepth 100000 in
theorem tb_Sc_greatestShareRight_12 (l : Launch) (D : va_G) (E : Nat → ClassId) (B : Nat) (sa : (Nat → Nat) × Nat × (Nat → Int32)) (M0 M1 : mv_M) (r : Int64) (N : Nat) : ∀ (n : Nat) (M : mv_M) (v0 : Nat) (v1 : Int32) (v2 : Int32) (hJ : jb_Sc_greatestShareRight_12 N n M v0 v1 v2 = some (r, M1)), mv_G (xg l D E B sa) kd_Sc_greatestShareRight M0 M1 (some (.long r)) M 12 [(0, va_rf (some v0)), (1, .int v1), (2, .int v2)] [] := by
  intro n
  induction n with
  | zero => intro M v0 v1 v2 hJ; cases hJ
  | succ n ih =>
    intro M v0 v1 v2 hJ
    rw [jb_Sc_greatestShareRight_12] at hJ
    refine mv_iload_n (pc := 12) (i := 2) de_Sc_greatestShareRight_12 rfl 2 rfl ?_
    refine mv_aload_n (pc := 13) (i := 0) de_Sc_greatestShareRight_13 rfl 0 rfl ?_
    refine mv_getI (pc := 14) (f := 2) (kc_4 l D E B sa) (Nat.le_of_ble_eq_true rfl) wt_1_106 de_Sc_greatestShareRight_14 hJ (fun x14 e14 h14 => ?_)
    refine mv_icmp_ge (pc := 17) (tgt := 41) de_Sc_greatestShareRight_17 (by decide) h14 (fun hc17 h17 => ?_) (fun hc17 h17 => ?_)
    · refine mv_iload_n (pc := 41) (i := 1) de_Sc_greatestShareRight_41 rfl 1 rfl ?_
      refine mv_i2l (pc := 42) de_Sc_greatestShareRight_42 ?_
      refine mv_aload_n (pc := 43) (i := 0) de_Sc_greatestShareRight_43 rfl 0 rfl ?_
      refine mv_getI (pc := 44) (f := 2) (kc_4 l D E B sa) (Nat.le_of_ble_eq_true rfl) wt_1_106 de_Sc_greatestShareRight_44 h17 (fun x44 e44 h44 => ?_)
      refine mv_i2l (pc := 47) de_Sc_greatestShareRight_47 ?_
      obtain ⟨r48, Mm48, hz48, h48⟩ := mj_callE h44
      refine mv_callS (pc := 48) (n := 2) (av := [.long v1.toInt64, .long x44.toInt64]) (rest := []) de_Sc_greatestShareRight_48 (cm_Fr_of l D E B sa N M v1.toInt64 x44.toInt64 _ _ hz48) wt_3_194 wt_1_35 wt_1_3 wt_1_36 ⟨by decide, by decide, by decide +kernel⟩ rfl ⟨Nat.le_of_ble_eq_true rfl, Nat.le_of_ble_eq_true rfl⟩ (Nat.le_of_ble_eq_true rfl) rfl ?_
      exact mv_lret (pc := 51) rfl de_Sc_greatestShareRight_51 h48
    · refine mv_iload_n (pc := 20) (i := 1) de_Sc_greatestShareRight_20 rfl 1 rfl ?_
      refine mv_aload_n (pc := 21) (i := 0) de_Sc_greatestShareRight_21 rfl 0 rfl ?_
      refine mv_aload_n (pc := 22) (i := 0) de_Sc_greatestShareRight_22 rfl 0 rfl ?_
      refine mv_getR (pc := 23) (f := 0) (kc_4 l D E B sa) (Nat.le_of_ble_eq_true rfl) wt_1_104 de_Sc_greatestShareRight_23 h17 (fun x23 e23 h23 => ?_)
      refine mv_iload_n (pc := 26) (i := 2) de_Sc_greatestShareRight_26 rfl 2 rfl ?_
      obtain ⟨a27, ha, h27a⟩ := mj_bindE h23
      subst ha
      refine mv_iald (pc := 27) (t := 0) rfl de_Sc_greatestShareRight_27 h27a (fun x27 e27 h27 => ?_)
      obtain ⟨hi28, h28o⟩ := mj_obE h27
      obtain ⟨r28, Mm28, hz28, h28⟩ := mj_callE h28o
      refine mv_callV (pc := 28) (n := 1) (av := [.int x27]) (rest := [.int v1]) de_Sc_greatestShareRight_28 (kc_4 l D E B sa) hi28 (cm_Sc_countRight l D E B sa N M v0 x27 _ _ hz28) wt_3_199 wt_3_201 wp_16 wt_1_6 wt_3_202 ⟨by decide, by decide, by decide +kernel⟩ rfl ⟨Nat.le_of_ble_eq_true rfl, Nat.le_of_ble_eq_true rfl⟩ (Nat.le_of_ble_eq_true rfl) rfl ?_
      obtain ⟨r31, Mm31, hz31, h31⟩ := mj_callE h28
      refine mv_callS (pc := 31) (n := 2) (av := [.int v1, .int r28]) (rest := []) de_Sc_greatestShareRight_31 (cm_Jm_max l D E B sa N Mm28 v1 r28 _ _ hz31) wt_3_203 wt_2_85 wt_1_12 wt_2_86 ⟨by decide, by decide, by decide +kernel⟩ rfl ⟨Nat.le_of_ble_eq_true rfl, Nat.le_of_ble_eq_true rfl⟩ (Nat.le_of_ble_eq_true rfl) rfl ?_
      refine mv_istore_n (pc := 34) (i := 1) (lv' := [(1, .int r31), (0, va_rf (some v0)), (2, .int v2)]) de_Sc_greatestShareRight_34 rfl (Nat.le_of_ble_eq_true rfl) rfl ?_
      refine mv_iinc (pc := 35) (v := (v2 + 1)) (lv' := [(2, .int (v2 + 1)), (1, .int r31), (0, va_rf (some v0))]) de_Sc_greatestShareRight_35 2 rfl rfl (Nat.le_of_ble_eq_true rfl) rfl ?_
      refine mv_goto (pc := 38) (tgt := 12) de_Sc_greatestShareRight_38 (by decide) ?_
      exact mv_sub [2, 1, 0] rfl (ih Mm31 v0 r31 (v2 + 1) h31)
set_option maxHeartbeats 4000000 in
set_option maxRecDepth 100000 in
theorem tb_Sc_greatestShareRight_0 (l : Launch) (D : va_G) (E : Nat → ClassId) (B : Nat) (sa : (Nat → Nat) × Nat × (Nat → Int32)) (M0 M1 : mv_M) (r : Int64) (N : Nat) (M : mv_M) (v0 : Nat) (hJ : jb_Sc_greatestShareRight_0 N M v0 = some (r, M1)) : mv_G (xg l D E B sa) kd_Sc_greatestShareRight M0 M1 (some (.long r)) M 0 [(0, va_rf (some v0))] [] := by
  unfold jb_Sc_greatestShareRight_0 at hJ
  refine mv_aload_n (pc := 0) (i := 0) de_Sc_greatestShareRight_0 rfl 0 rfl ?_
  refine mv_getI (pc := 1) (f := 2) (kc_4 l D E B sa) (Nat.le_of_ble_eq_true rfl) wt_1_106 de_Sc_greatestShareRight_1 hJ (fun x1 e1 h1 => ?_)
  refine mv_aload_n (pc := 4) (i := 0) de_Sc_greatestShareRight_4 rfl 0 rfl ?_
  obtain ⟨hi5, h5o⟩ := mj_obE h1
  obtain ⟨r5, Mm5, hz5, h5⟩ := mj_callE h5o
  refine mv_callV (pc := 5) (n := 0) (av := []) (rest := [.int x1]) de_Sc_greatestShareRight_5 (kc_4 l D E B sa) hi5 (cm_Sc_countYes l D E B sa N M v0 _ _ hz5) wt_3_189 wt_3_191 wp_14 wt_1_6 wt_3_192 ⟨by decide, by decide, by decide +kernel⟩ rfl ⟨Nat.le_of_ble_eq_true rfl, Nat.le_of_ble_eq_true rfl⟩ (Nat.le_of_ble_eq_true rfl) rfl ?_
  refine mv_isub (pc := 8) de_Sc_greatestShareRight_8 ?_
  refine mv_istore_n (pc := 9) (i := 1) (lv' := [(1, .int (x1 - r5)), (0, va_rf (some v0))]) de_Sc_greatestShareRight_9 rfl (Nat.le_of_ble_eq_true rfl) rfl ?_
  refine mv_iconst (pc := 10) (v := 0) de_Sc_greatestShareRight_10 (by decide) ?_
  refine mv_istore_n (pc := 11) (i := 2) (lv' := [(2, .int 0), (1, .int (x1 - r5)), (0, va_rf (some v0))]) de_Sc_greatestShareRight_11 rfl (Nat.le_of_ble_eq_true rfl) rfl ?_
  exact mv_sub [2, 1, 0] rfl (tb_Sc_greatestShareRight_12 l D E B sa M0 M1 r N N Mm5 v0 (x1 - r5) 0 h5)
theorem cm_Sc_greatestShareRight (l : Launch) (D : va_G) (E : Nat → ClassId) (B : Nat) (sa : (Nat → Nat) × Nat × (Nat → Int32)) (N : Nat) (M : mv_M) (v0 : Nat) (r : Int64) (M1 : mv_M) (hJ : jf_Sc_greatestShareRight N M v0 = some (r, M1)) : mv_Met (xg l D E B sa) yn_Sc_greatestShareRight cd_Sc_greatestShareRight 3 (some .long) 2 55 [va_rf (some v0)] M (some (.long r)) M1 :=
  mv_enter (by decide) (Nat.le_of_ble_eq_true rfl) (mv_sub (lv := [(0, va_rf (some v0))]) [0] rfl (tb_Sc_greatestShareRight_0 l D E B sa M M1 r N M v0 hJ))
/-! ===== PlainLearner$Scores.countYesToldYes(I)I ===== -/
abbrev kd_Sc_countYesToldYes : mv_Kd := (cd_Sc_countYesToldYes, 4, "PlainLearner$Scores", "countYesToldYes", (some .int), 0, 0)
theorem de_Sc_countYesToldYes_0 : decode cd_Sc_countYesToldYes 0 = .ok (.iconst 0, 1) := by decide +kernel
theorem de_Sc_countYesToldYes_1 : decode cd_Sc_countYesToldYes 1 = .ok (.istore_n 2, 1) := by decide +kernel
theorem de_Sc_countYesToldYes_2 : decode cd_Sc_countYesToldYes 2 = .ok (.iconst 0, 1) := by decide +kernel
theorem de_Sc_countYesToldYes_3 : decode cd_Sc_countYesToldYes 3 = .ok (.istore_n 3, 1) := by decide +kernel
theorem de_Sc_countYesToldYes_4 : decode cd_Sc_countYesToldYes 4 = .ok (.iload_n 3, 1) := by decide +kernel
theorem de_Sc_countYesToldYes_5 : decode cd_Sc_countYesToldYes 5 = .ok (.aload_n 0, 1) := by decide +kernel
theorem de_Sc_countYesToldYes_6 : decode cd_Sc_countYesToldYes 6 = .ok (.getfield 19, 3) := by decide +kernel
theorem de_Sc_countYesToldYes_9 : decode cd_Sc_countYesToldYes 9 = .ok (.if_icmp .ge 31, 3) := by decide +kernel
theorem de_Sc_countYesToldYes_12 : decode cd_Sc_countYesToldYes 12 = .ok (.aload_n 0, 1) := by decide +kernel
theorem de_Sc_countYesToldYes_13 : decode cd_Sc_countYesToldYes 13 = .ok (.getfield 15, 3) := by decide +kernel
theorem de_Sc_countYesToldYes_16 : decode cd_Sc_countYesToldYes 16 = .ok (.iload_n 3, 1) := by decide +kernel
theorem de_Sc_countYesToldYes_17 : decode cd_Sc_countYesToldYes 17 = .ok (.baload, 1) := by decide +kernel
theorem de_Sc_countYesToldYes_18 : decode cd_Sc_countYesToldYes 18 = .ok (.ifCond .eq 16, 3) := by decide +kernel
theorem de_Sc_countYesToldYes_21 : decode cd_Sc_countYesToldYes 21 = .ok (.aload_n 0, 1) := by decide +kernel
theorem de_Sc_countYesToldYes_22 : decode cd_Sc_countYesToldYes 22 = .ok (.getfield 11, 3) := by decide +kernel
theorem de_Sc_countYesToldYes_25 : decode cd_Sc_countYesToldYes 25 = .ok (.iload_n 3, 1) := by decide +kernel
theorem de_Sc_countYesToldYes_26 : decode cd_Sc_countYesToldYes 26 = .ok (.iaload, 1) := by decide +kernel
theorem de_Sc_countYesToldYes_27 : decode cd_Sc_countYesToldYes 27 = .ok (.iload_n 1, 1) := by decide +kernel
theorem de_Sc_countYesToldYes_28 : decode cd_Sc_countYesToldYes 28 = .ok (.if_icmp .lt 6, 3) := by decide +kernel
theorem de_Sc_countYesToldYes_31 : decode cd_Sc_countYesToldYes 31 = .ok (.iinc 2 1, 3) := by decide +kernel
theorem de_Sc_countYesToldYes_34 : decode cd_Sc_countYesToldYes 34 = .ok (.iinc 3 1, 3) := by decide +kernel
theorem de_Sc_countYesToldYes_37 : decode cd_Sc_countYesToldYes 37 = .ok (.goto (-33), 3) := by decide +kernel
theorem de_Sc_countYesToldYes_40 : decode cd_Sc_countYesToldYes 40 = .ok (.iload_n 2, 1) := by decide +kernel
theorem de_Sc_countYesToldYes_41 : decode cd_Sc_countYesToldYes 41 = .ok (.ireturn, 1) := by decide +kernel
def jb_Sc_countYesToldYes_34 (N : Nat) (k4 : mv_M → Nat → Int32 → Int32 → Int32 → Option (Int32 × mv_M)) (M : mv_M) (v0 : Nat) (v1 : Int32) (v2 : Int32) (v3 : Int32) : Option (Int32 × mv_M) :=
  k4 M v0 v1 v2 (v3 + 1)
def jb_Sc_countYesToldYes_4 (N : Nat) : Nat → mv_M → Nat → Int32 → Int32 → Int32 → Option (Int32 × mv_M)
  | 0, _, _, _, _, _ => none
  | n + 1, M, v0, v1, v2, v3 =>
    Option.bind (mj_getI M v0 4 2) fun x6 =>
    if x6 ≤ v3 then (some (v2, M)) else
    Option.bind (mj_getR M v0 4 1) fun x13 =>
    Option.bind x13 fun a17 =>
    Option.bind (mj_ild M a17 2 v3) fun x17 =>
    if x17 = 0 then (jb_Sc_countYesToldYes_34 N (jb_Sc_countYesToldYes_4 N n) M v0 v1 v2 v3) else
    Option.bind (mj_getR M v0 4 0) fun x22 =>
    Option.bind x22 fun a26 =>
    Option.bind (mj_ild M a26 0 v3) fun x26 =>
    if x26 < v1 then (jb_Sc_countYesToldYes_34 N (jb_Sc_countYesToldYes_4 N n) M v0 v1 v2 v3) else
    jb_Sc_countYesToldYes_34 N (jb_Sc_countYesToldYes_4 N n) M v0 v1 (v2 + 1) v3
def jb_Sc_countYesToldYes_0 (N : Nat) (M : mv_M) (v0 : Nat) (v1 : Int32) : Option (Int32 × mv_M) :=
  jb_Sc_countYesToldYes_4 N N M v0 v1 0 0
def jf_Sc_countYesToldYes (N : Nat) (M : mv_M) (v0 : Nat) (v1 : Int32) : Option (Int32 × mv_M) := jb_Sc_countYesToldYes_0 N M v0 v1
set_option maxHeartbeats 4000000 in
set_option maxRecDepth 100000 in
theorem tb_Sc_countYesToldYes_34 (l : Launch) (D : va_G) (E : Nat → ClassId) (B : Nat) (sa : (Nat → Nat) × Nat × (Nat → Int32)) (M0 M1 : mv_M) (r : Int32) (N : Nat) (k4 : mv_M → Nat → Int32 → Int32 → Int32 → Option (Int32 × mv_M)) (hk4 : ∀ (M : mv_M) (v0 : Nat) (v1 : Int32) (v2 : Int32) (v3 : Int32), k4 M v0 v1 v2 v3 = some (r, M1) → mv_G (xg l D E B sa) kd_Sc_countYesToldYes M0 M1 (some (.int r)) M 4 [(0, va_rf (some v0)), (1, .int v1), (2, .int v2), (3, .int v3)] []) (M : mv_M) (v0 : Nat) (v1 : Int32) (v2 : Int32) (v3 : Int32) (hJ : jb_Sc_countYesToldYes_34 N k4 M v0 v1 v2 v3 = some (r, M1)) : mv_G (xg l D E B sa) kd_Sc_countYesToldYes M0 M1 (some (.int r)) M 34 [(0, va_rf (some v0)), (1, .int v1), (2, .int v2), (3, .int v3)] [] := by
  unfold jb_Sc_countYesToldYes_34 at hJ
  refine mv_iinc (pc := 34) (v := (v3 + 1)) (lv' := [(3, .int (v3 + 1)), (0, va_rf (some v0)), (1, .int v1), (2, .int v2)]) de_Sc_countYesToldYes_34 3 rfl rfl (Nat.le_of_ble_eq_true rfl) rfl ?_
  refine mv_goto (pc := 37) (tgt := 4) de_Sc_countYesToldYes_37 (by decide) ?_
  exact mv_sub [1, 2, 3, 0] rfl (hk4 M v0 v1 v2 (v3 + 1) hJ)
set_option maxHeartbeats 4000000 in
set_option maxRecDepth 100000 in
theorem tb_Sc_countYesToldYes_4 (l : Launch) (D : va_G) (E : Nat → ClassId) (B : Nat) (sa : (Nat → Nat) × Nat × (Nat → Int32)) (M0 M1 : mv_M) (r : Int32) (N : Nat) : ∀ (n : Nat) (M : mv_M) (v0 : Nat) (v1 : Int32) (v2 : Int32) (v3 : Int32) (hJ : jb_Sc_countYesToldYes_4 N n M v0 v1 v2 v3 = some (r, M1)), mv_G (xg l D E B sa) kd_Sc_countYesToldYes M0 M1 (some (.int r)) M 4 [(0, va_rf (some v0)), (1, .int v1), (2, .int v2), (3, .int v3)] [] := by
  intro n
  induction n with
  | zero => intro M v0 v1 v2 v3 hJ; cases hJ
  | succ n ih =>
    intro M v0 v1 v2 v3 hJ
    rw [jb_Sc_countYesToldYes_4] at hJ
    refine mv_iload_n (pc := 4) (i := 3) de_Sc_countYesToldYes_4 rfl 3 rfl ?_
    refine mv_aload_n (pc := 5) (i := 0) de_Sc_countYesToldYes_5 rfl 0 rfl ?_
    refine mv_getI (pc := 6) (f := 2) (kc_4 l D E B sa) (Nat.le_of_ble_eq_true rfl) wt_1_106 de_Sc_countYesToldYes_6 hJ (fun x6 e6 h6 => ?_)
    refine mv_icmp_ge (pc := 9) (tgt := 40) de_Sc_countYesToldYes_9 (by decide) h6 (fun hc9 h9 => ?_) (fun hc9 h9 => ?_)
    · refine mv_iload_n (pc := 40) (i := 2) de_Sc_countYesToldYes_40 rfl 2 rfl ?_
      exact mv_iret (pc := 41) rfl de_Sc_countYesToldYes_41 h9
    · refine mv_aload_n (pc := 12) (i := 0) de_Sc_countYesToldYes_12 rfl 0 rfl ?_
      refine mv_getR (pc := 13) (f := 1) (kc_4 l D E B sa) (Nat.le_of_ble_eq_true rfl) wt_1_105 de_Sc_countYesToldYes_13 h9 (fun x13 e13 h13 => ?_)
      refine mv_iload_n (pc := 16) (i := 3) de_Sc_countYesToldYes_16 rfl 3 rfl ?_
      obtain ⟨a17, ha, h17a⟩ := mj_bindE h13
      subst ha
      refine mv_zald (pc := 17) (t := 2) rfl de_Sc_countYesToldYes_17 h17a (fun x17 e17 h17 => ?_)
      refine mv_if_eq (pc := 18) (tgt := 34) de_Sc_countYesToldYes_18 (by decide) h17 (fun hc18 h18 => ?_) (fun hc18 h18 => ?_)
      · exact mv_sub [0, 1, 2, 3] rfl (tb_Sc_countYesToldYes_34 l D E B sa M0 M1 r N (jb_Sc_countYesToldYes_4 N n) ih M v0 v1 v2 v3 h18)
      · refine mv_aload_n (pc := 21) (i := 0) de_Sc_countYesToldYes_21 rfl 0 rfl ?_
        refine mv_getR (pc := 22) (f := 0) (kc_4 l D E B sa) (Nat.le_of_ble_eq_true rfl) wt_1_104 de_Sc_countYesToldYes_22 h18 (fun x22 e22 h22 => ?_)
        refine mv_iload_n (pc := 25) (i := 3) de_Sc_countYesToldYes_25 rfl 3 rfl ?_
        obtain ⟨a26, ha, h26a⟩ := mj_bindE h22
        subst ha
        refine mv_iald (pc := 26) (t := 0) rfl de_Sc_countYesToldYes_26 h26a (fun x26 e26 h26 => ?_)
        refine mv_iload_n (pc := 27) (i := 1) de_Sc_countYesToldYes_27 rfl 1 rfl ?_
        refine mv_icmp_lt (pc := 28) (tgt := 34) de_Sc_countYesToldYes_28 (by decide) h26 (fun hc28 h28 => ?_) (fun hc28 h28 => ?_)
        · exact mv_sub [0, 1, 2, 3] rfl (tb_Sc_countYesToldYes_34 l D E B sa M0 M1 r N (jb_Sc_countYesToldYes_4 N n) ih M v0 v1 v2 v3 h28)
        · refine mv_iinc (pc := 31) (v := (v2 + 1)) (lv' := [(2, .int (v2 + 1)), (0, va_rf (some v0)), (1, .int v1), (3, .int v3)]) de_Sc_countYesToldYes_31 2 rfl rfl (Nat.le_of_ble_eq_true rfl) rfl ?_
          exact mv_sub [1, 2, 0, 3] rfl (tb_Sc_countYesToldYes_34 l D E B sa M0 M1 r N (jb_Sc_countYesToldYes_4 N n) ih M v0 v1 (v2 + 1) v3 h28)
set_option maxHeartbeats 4000000 in
set_option maxRecDepth 100000 in
theorem tb_Sc_countYesToldYes_0 (l : Launch) (D : va_G) (E : Nat → ClassId) (B : Nat) (sa : (Nat → Nat) × Nat × (Nat → Int32)) (M0 M1 : mv_M) (r : Int32) (N : Nat) (M : mv_M) (v0 : Nat) (v1 : Int32) (hJ : jb_Sc_countYesToldYes_0 N M v0 v1 = some (r, M1)) : mv_G (xg l D E B sa) kd_Sc_countYesToldYes M0 M1 (some (.int r)) M 0 [(0, va_rf (some v0)), (1, .int v1)] [] := by
  unfold jb_Sc_countYesToldYes_0 at hJ
  refine mv_iconst (pc := 0) (v := 0) de_Sc_countYesToldYes_0 (by decide) ?_
  refine mv_istore_n (pc := 1) (i := 2) (lv' := [(2, .int 0), (0, va_rf (some v0)), (1, .int v1)]) de_Sc_countYesToldYes_1 rfl (Nat.le_of_ble_eq_true rfl) rfl ?_
  refine mv_iconst (pc := 2) (v := 0) de_Sc_countYesToldYes_2 (by decide) ?_
  refine mv_istore_n (pc := 3) (i := 3) (lv' := [(3, .int 0), (2, .int 0), (0, va_rf (some v0)), (1, .int v1)]) de_Sc_countYesToldYes_3 rfl (Nat.le_of_ble_eq_true rfl) rfl ?_
  exact mv_sub [2, 3, 1, 0] rfl (tb_Sc_countYesToldYes_4 l D E B sa M0 M1 r N N M v0 v1 0 0 hJ)
theorem cm_Sc_countYesToldYes (l : Launch) (D : va_G) (E : Nat → ClassId) (B : Nat) (sa : (Nat → Nat) × Nat × (Nat → Int32)) (N : Nat) (M : mv_M) (v0 : Nat) (v1 : Int32) (r : Int32) (M1 : mv_M) (hJ : jf_Sc_countYesToldYes N M v0 v1 = some (r, M1)) : mv_Met (xg l D E B sa) yn_Sc_countYesToldYes cd_Sc_countYesToldYes 4 (some .int) 0 0 [va_rf (some v0), .int v1] M (some (.int r)) M1 :=
  mv_enter (by decide) (Nat.le_of_ble_eq_true rfl) (mv_sub (lv := [(0, va_rf (some v0)), (1, .int v1)]) [0, 1] rfl (tb_Sc_countYesToldYes_0 l D E B sa M M1 r N M v0 v1 hJ))
/-! ===== PlainLearner$Scores.greatestBalance()J ===== -/
abbrev kd_Sc_greatestBalance : mv_Kd := (cd_Sc_greatestBalance, 8, "PlainLearner$Scores", "greatestBalance", (some .long), 2, 55)
theorem de_Sc_greatestBalance_0 : decode cd_Sc_greatestBalance 0 = .ok (.lconst 1, 1) := by decide +kernel
theorem de_Sc_greatestBalance_1 : decode cd_Sc_greatestBalance 1 = .ok (.lstore_n 1, 1) := by decide +kernel
theorem de_Sc_greatestBalance_2 : decode cd_Sc_greatestBalance 2 = .ok (.iconst 0, 1) := by decide +kernel
theorem de_Sc_greatestBalance_3 : decode cd_Sc_greatestBalance 3 = .ok (.istore_n 3, 1) := by decide +kernel
theorem de_Sc_greatestBalance_4 : decode cd_Sc_greatestBalance 4 = .ok (.iload_n 3, 1) := by decide +kernel
theorem de_Sc_greatestBalance_5 : decode cd_Sc_greatestBalance 5 = .ok (.aload_n 0, 1) := by decide +kernel
theorem de_Sc_greatestBalance_6 : decode cd_Sc_greatestBalance 6 = .ok (.getfield 19, 3) := by decide +kernel
theorem de_Sc_greatestBalance_9 : decode cd_Sc_greatestBalance 9 = .ok (.if_icmp .ge 75, 3) := by decide +kernel
theorem de_Sc_greatestBalance_12 : decode cd_Sc_greatestBalance 12 = .ok (.iconst 2, 1) := by decide +kernel
theorem de_Sc_greatestBalance_13 : decode cd_Sc_greatestBalance 13 = .ok (.aload_n 0, 1) := by decide +kernel
theorem de_Sc_greatestBalance_14 : decode cd_Sc_greatestBalance 14 = .ok (.aload_n 0, 1) := by decide +kernel
theorem de_Sc_greatestBalance_15 : decode cd_Sc_greatestBalance 15 = .ok (.getfield 11, 3) := by decide +kernel
theorem de_Sc_greatestBalance_18 : decode cd_Sc_greatestBalance 18 = .ok (.iload_n 3, 1) := by decide +kernel
theorem de_Sc_greatestBalance_19 : decode cd_Sc_greatestBalance 19 = .ok (.iaload, 1) := by decide +kernel
theorem de_Sc_greatestBalance_20 : decode cd_Sc_greatestBalance 20 = .ok (.invokevirtual 58, 3) := by decide +kernel
theorem de_Sc_greatestBalance_23 : decode cd_Sc_greatestBalance 23 = .ok (.imul, 1) := by decide +kernel
theorem de_Sc_greatestBalance_24 : decode cd_Sc_greatestBalance 24 = .ok (.istore 4, 2) := by decide +kernel
theorem de_Sc_greatestBalance_26 : decode cd_Sc_greatestBalance 26 = .ok (.aload_n 0, 1) := by decide +kernel
theorem de_Sc_greatestBalance_27 : decode cd_Sc_greatestBalance 27 = .ok (.getfield 19, 3) := by decide +kernel
theorem de_Sc_greatestBalance_30 : decode cd_Sc_greatestBalance 30 = .ok (.aload_n 0, 1) := by decide +kernel
theorem de_Sc_greatestBalance_31 : decode cd_Sc_greatestBalance 31 = .ok (.aload_n 0, 1) := by decide +kernel
theorem de_Sc_greatestBalance_32 : decode cd_Sc_greatestBalance 32 = .ok (.getfield 11, 3) := by decide +kernel
theorem de_Sc_greatestBalance_35 : decode cd_Sc_greatestBalance 35 = .ok (.iload_n 3, 1) := by decide +kernel
theorem de_Sc_greatestBalance_36 : decode cd_Sc_greatestBalance 36 = .ok (.iaload, 1) := by decide +kernel
theorem de_Sc_greatestBalance_37 : decode cd_Sc_greatestBalance 37 = .ok (.invokevirtual 48, 3) := by decide +kernel
theorem de_Sc_greatestBalance_40 : decode cd_Sc_greatestBalance 40 = .ok (.isub, 1) := by decide +kernel
theorem de_Sc_greatestBalance_41 : decode cd_Sc_greatestBalance 41 = .ok (.istore 5, 2) := by decide +kernel
theorem de_Sc_greatestBalance_43 : decode cd_Sc_greatestBalance 43 = .ok (.iload 4, 2) := by decide +kernel
theorem de_Sc_greatestBalance_45 : decode cd_Sc_greatestBalance 45 = .ok (.ifCond .ne 7, 3) := by decide +kernel
theorem de_Sc_greatestBalance_48 : decode cd_Sc_greatestBalance 48 = .ok (.lconst 1, 1) := by decide +kernel
theorem de_Sc_greatestBalance_49 : decode cd_Sc_greatestBalance 49 = .ok (.goto 15, 3) := by decide +kernel
theorem de_Sc_greatestBalance_52 : decode cd_Sc_greatestBalance 52 = .ok (.iload 4, 2) := by decide +kernel
theorem de_Sc_greatestBalance_54 : decode cd_Sc_greatestBalance 54 = .ok (.i2l, 1) := by decide +kernel
theorem de_Sc_greatestBalance_55 : decode cd_Sc_greatestBalance 55 = .ok (.iload 4, 2) := by decide +kernel
theorem de_Sc_greatestBalance_57 : decode cd_Sc_greatestBalance 57 = .ok (.iload 5, 2) := by decide +kernel
theorem de_Sc_greatestBalance_59 : decode cd_Sc_greatestBalance 59 = .ok (.iadd, 1) := by decide +kernel
theorem de_Sc_greatestBalance_60 : decode cd_Sc_greatestBalance 60 = .ok (.i2l, 1) := by decide +kernel
theorem de_Sc_greatestBalance_61 : decode cd_Sc_greatestBalance 61 = .ok (.invokestatic 42, 3) := by decide +kernel
theorem de_Sc_greatestBalance_64 : decode cd_Sc_greatestBalance 64 = .ok (.lstore 6, 2) := by decide +kernel
theorem de_Sc_greatestBalance_66 : decode cd_Sc_greatestBalance 66 = .ok (.lload 6, 2) := by decide +kernel
theorem de_Sc_greatestBalance_68 : decode cd_Sc_greatestBalance 68 = .ok (.lload_n 1, 1) := by decide +kernel
theorem de_Sc_greatestBalance_69 : decode cd_Sc_greatestBalance 69 = .ok (.invokestatic 61, 3) := by decide +kernel
theorem de_Sc_greatestBalance_72 : decode cd_Sc_greatestBalance 72 = .ok (.ifCond .le 6, 3) := by decide +kernel
theorem de_Sc_greatestBalance_75 : decode cd_Sc_greatestBalance 75 = .ok (.lload 6, 2) := by decide +kernel
theorem de_Sc_greatestBalance_77 : decode cd_Sc_greatestBalance 77 = .ok (.lstore_n 1, 1) := by decide +kernel
theorem de_Sc_greatestBalance_78 : decode cd_Sc_greatestBalance 78 = .ok (.iinc 3 1, 3) := by decide +kernel
theorem de_Sc_greatestBalance_81 : decode cd_Sc_greatestBalance 81 = .ok (.goto (-77), 3) := by decide +kernel
theorem de_Sc_greatestBalance_84 : decode cd_Sc_greatestBalance 84 = .ok (.lload_n 1, 1) := by decide +kernel
theorem de_Sc_greatestBalance_85 : decode cd_Sc_greatestBalance 85 = .ok (.lreturn, 1) := by decide +kernel
def jb_Sc_greatestBalance_78 (N : Nat) (k4 : mv_M → Nat → Int64 → Int32 → Option (Int64 × mv_M)) (M : mv_M) (v0 : Nat) (v1 : Int64) (v3 : Int32) : Option (Int64 × mv_M) :=
  k4 M v0 v1 (v3 + 1)
def jb_Sc_greatestBalance_64 (N : Nat) (k4 : mv_M → Nat → Int64 → Int32 → Option (Int64 × mv_M)) (M : mv_M) (v0 : Nat) (v1 : Int64) (v3 : Int32) (s0 : Int64) : Option (Int64 × mv_M) :=
  mj_call (jf_Fr_compare N M s0 v1) fun r69 Mm69 =>
  if r69 ≤ 0 then (jb_Sc_greatestBalance_78 N k4 Mm69 v0 v1 v3) else
  jb_Sc_greatestBalance_78 N k4 Mm69 v0 s0 v3
def jb_Sc_greatestBalance_4 (N : Nat) : Nat → mv_M → Nat → Int64 → Int32 → Option (Int64 × mv_M)
  | 0, _, _, _, _ => none
  | n + 1, M, v0, v1, v3 =>
    Option.bind (mj_getI M v0 4 2) fun x6 =>
    if x6 ≤ v3 then (some (v1, M)) else
    Option.bind (mj_getR M v0 4 0) fun x15 =>
    Option.bind x15 fun a19 =>
    Option.bind (mj_ild M a19 0 v3) fun x19 =>
    mj_ob M v0 4 <|
    mj_call (jf_Sc_countYesToldYes N M v0 x19) fun r20 Mm20 =>
    Option.bind (mj_getI Mm20 v0 4 2) fun x27 =>
    Option.bind (mj_getR Mm20 v0 4 0) fun x32 =>
    Option.bind x32 fun a36 =>
    Option.bind (mj_ild Mm20 a36 0 v3) fun x36 =>
    mj_ob Mm20 v0 4 <|
    mj_call (jf_Sc_countRight N Mm20 v0 x36) fun r37 Mm37 =>
    if (2 * r20) = 0 then (jb_Sc_greatestBalance_64 N (jb_Sc_greatestBalance_4 N n) Mm37 v0 v1 v3 1) else
    mj_call (jf_Fr_of N Mm37 ((2 * r20).toInt64) (((2 * r20) + (x27 - r37)).toInt64)) fun r61 Mm61 =>
    jb_Sc_greatestBalance_64 N (jb_Sc_greatestBalance_4 N n) Mm61 v0 v1 v3 r61
def jb_Sc_greatestBalance_0 (N : Nat) (M : mv_M) (v0 : Nat) : Option (Int64 × mv_M) :=
  jb_Sc_greatestBalance_4 N N M v0 1 0
def jf_Sc_greatestBalance (N : Nat) (M : mv_M) (v0 : Nat) : Option (Int64 × mv_M) := jb_Sc_greatestBalance_0 N M v0
set_option maxHeartbeats 4000000 in
set_option maxRecDepth 100000 in
theorem tb_Sc_greatestBalance_78 (l : Launch) (D : va_G) (E : Nat → ClassId) (B : Nat) (sa : (Nat → Nat) × Nat × (Nat → Int32)) (M0 M1 : mv_M) (r : Int64) (N : Nat) (k4 : mv_M → Nat → Int64 → Int32 → Option (Int64 × mv_M)) (hk4 : ∀ (M : mv_M) (v0 : Nat) (v1 : Int64) (v3 : Int32), k4 M v0 v1 v3 = some (r, M1) → mv_G (xg l D E B sa) kd_Sc_greatestBalance M0 M1 (some (.long r)) M 4 [(0, va_rf (some v0)), (1, .long v1), (3, .int v3)] []) (M : mv_M) (v0 : Nat) (v1 : Int64) (v3 : Int32) (hJ : jb_Sc_greatestBalance_78 N k4 M v0 v1 v3 = some (r, M1)) : mv_G (xg l D E B sa) kd_Sc_greatestBalance M0 M1 (some (.long r)) M 78 [(0, va_rf (some v0)), (1, .long v1), (3, .int v3)] [] := by
  unfold jb_Sc_greatestBalance_78 at hJ
  refine mv_iinc (pc := 78) (v := (v3 + 1)) (lv' := [(3, .int (v3 + 1)), (0, va_rf (some v0)), (1, .long v1)]) de_Sc_greatestBalance_78 2 rfl rfl (Nat.le_of_ble_eq_true rfl) rfl ?_
  refine mv_goto (pc := 81) (tgt := 4) de_Sc_greatestBalance_81 (by decide) ?_
  exact mv_sub [1, 2, 0] rfl (hk4 M v0 v1 (v3 + 1) hJ)
set_option maxHeartbeats 4000000 in
set_option maxRecDepth 100000 in
theorem tb_Sc_greatestBalance_64 (l : Launch) (D : va_G) (E : Nat → ClassId) (B : Nat) (sa : (Nat → Nat) × Nat × (Nat → Int32)) (M0 M1 : mv_M) (r : Int64) (N : Nat) (k4 : mv_M → Nat → Int64 → Int32 → Option (Int64 × mv_M)) (hk4 : ∀ (M : mv_M) (v0 : Nat) (v1 : Int64) (v3 : Int32), k4 M v0 v1 v3 = some (r, M1) → mv_G (xg l D E B sa) kd_Sc_greatestBalance M0 M1 (some (.long r)) M 4 [(0, va_rf (some v0)), (1, .long v1), (3, .int v3)] []) (M : mv_M) (v0 : Nat) (v1 : Int64) (v3 : Int32) (s0 : Int64) (hJ : jb_Sc_greatestBalance_64 N k4 M v0 v1 v3 s0 = some (r, M1)) : mv_G (xg l D E B sa) kd_Sc_greatestBalance M0 M1 (some (.long r)) M 64 [(0, va_rf (some v0)), (1, .long v1), (3, .int v3)] [.long s0] := by
  unfold jb_Sc_greatestBalance_64 at hJ
  refine mv_lstore (pc := 64) (lv' := [(6, .long s0), (0, va_rf (some v0)), (1, .long v1), (3, .int v3)]) de_Sc_greatestBalance_64 (Nat.le_of_ble_eq_true rfl) rfl ?_
  refine mv_lload (pc := 66) de_Sc_greatestBalance_66 0 rfl ?_
  refine mv_lload_n (pc := 68) (i := 1) de_Sc_greatestBalance_68 rfl 2 rfl ?_
  obtain ⟨r69, Mm69, hz69, h69⟩ := mj_callE hJ
  refine mv_callS (pc := 69) (n := 2) (av := [.long s0, .long v1]) (rest := []) de_Sc_greatestBalance_69 (cm_Fr_compare l D E B sa N M s0 v1 _ _ hz69) wt_3_212 wt_2_190 wt_1_3 wt_2_191 ⟨by decide, by decide, by decide +kernel⟩ rfl ⟨Nat.le_of_ble_eq_true rfl, Nat.le_of_ble_eq_true rfl⟩ (Nat.le_of_ble_eq_true rfl) rfl ?_
  refine mv_if_le (pc := 72) (tgt := 78) de_Sc_greatestBalance_72 (by decide) h69 (fun hc72 h72 => ?_) (fun hc72 h72 => ?_)
  · exact mv_sub [1, 2, 3] rfl (tb_Sc_greatestBalance_78 l D E B sa M0 M1 r N k4 hk4 Mm69 v0 v1 v3 h72)
  · refine mv_lload (pc := 75) de_Sc_greatestBalance_75 0 rfl ?_
    refine mv_lstore_n (pc := 77) (i := 1) (lv' := [(1, .long s0), (6, .long s0), (0, va_rf (some v0)), (3, .int v3)]) de_Sc_greatestBalance_77 rfl (Nat.le_of_ble_eq_true rfl) rfl ?_
    exact mv_sub [2, 0, 3] rfl (tb_Sc_greatestBalance_78 l D E B sa M0 M1 r N k4 hk4 Mm69 v0 s0 v3 h72)
set_option maxHeartbeats 4000000 in
set_option maxRecDepth 100000 in
theorem tb_Sc_greatestBalance_4 (l : Launch) (D : va_G) (E : Nat → ClassId) (B : Nat) (sa : (Nat → Nat) × Nat × (Nat → Int32)) (M0 M1 : mv_M) (r : Int64) (N : Nat) : ∀ (n : Nat) (M : mv_M) (v0 : Nat) (v1 : Int64) (v3 : Int32) (hJ : jb_Sc_greatestBalance_4 N n M v0 v1 v3 = some (r, M1)), mv_G (xg l D E B sa) kd_Sc_greatestBalance M0 M1 (some (.long r)) M 4 [(0, va_rf (some v0)), (1, .long v1), (3, .int v3)] [] := by
  intro n
  induction n with
  | zero => intro M v0 v1 v3 hJ; cases hJ
  | succ n ih =>
    intro M v0 v1 v3 hJ
    rw [jb_Sc_greatestBalance_4] at hJ
    refine mv_iload_n (pc := 4) (i := 3) de_Sc_greatestBalance_4 rfl 2 rfl ?_
    refine mv_aload_n (pc := 5) (i := 0) de_Sc_greatestBalance_5 rfl 0 rfl ?_
    refine mv_getI (pc := 6) (f := 2) (kc_4 l D E B sa) (Nat.le_of_ble_eq_true rfl) wt_1_106 de_Sc_greatestBalance_6 hJ (fun x6 e6 h6 => ?_)
    refine mv_icmp_ge (pc := 9) (tgt := 84) de_Sc_greatestBalance_9 (by decide) h6 (fun hc9 h9 => ?_) (fun hc9 h9 => ?_)
    · refine mv_lload_n (pc := 84) (i := 1) de_Sc_greatestBalance_84 rfl 1 rfl ?_
      exact mv_lret (pc := 85) rfl de_Sc_greatestBalance_85 h9
    · refine mv_iconst (pc := 12) (v := 2) de_Sc_greatestBalance_12 (by decide) ?_
      refine mv_aload_n (pc := 13) (i := 0) de_Sc_greatestBalance_13 rfl 0 rfl ?_
      refine mv_aload_n (pc := 14) (i := 0) de_Sc_greatestBalance_14 rfl 0 rfl ?_
      refine mv_getR (pc := 15) (f := 0) (kc_4 l D E B sa) (Nat.le_of_ble_eq_true rfl) wt_1_104 de_Sc_greatestBalance_15 h9 (fun x15 e15 h15 => ?_)
      refine mv_iload_n (pc := 18) (i := 3) de_Sc_greatestBalance_18 rfl 2 rfl ?_
      obtain ⟨a19, ha, h19a⟩ := mj_bindE h15
      subst ha
      refine mv_iald (pc := 19) (t := 0) rfl de_Sc_greatestBalance_19 h19a (fun x19 e19 h19 => ?_)
      obtain ⟨hi20, h20o⟩ := mj_obE h19
      obtain ⟨r20, Mm20, hz20, h20⟩ := mj_callE h20o
      refine mv_callV (pc := 20) (n := 1) (av := [.int x19]) (rest := [.int 2]) de_Sc_greatestBalance_20 (kc_4 l D E B sa) hi20 (cm_Sc_countYesToldYes l D E B sa N M v0 x19 _ _ hz20) wt_3_208 wt_3_210 wp_18 wt_1_6 wt_3_211 ⟨by decide, by decide, by decide +kernel⟩ rfl ⟨Nat.le_of_ble_eq_true rfl, Nat.le_of_ble_eq_true rfl⟩ (Nat.le_of_ble_eq_true rfl) rfl ?_
      refine mv_imul (pc := 23) de_Sc_greatestBalance_23 ?_
      refine mv_istore (pc := 24) (lv' := [(4, .int (2 * r20)), (0, va_rf (some v0)), (1, .long v1), (3, .int v3)]) de_Sc_greatestBalance_24 (Nat.le_of_ble_eq_true rfl) rfl ?_
      refine mv_aload_n (pc := 26) (i := 0) de_Sc_greatestBalance_26 rfl 1 rfl ?_
      refine mv_getI (pc := 27) (f := 2) (kc_4 l D E B sa) (Nat.le_of_ble_eq_true rfl) wt_1_106 de_Sc_greatestBalance_27 h20 (fun x27 e27 h27 => ?_)
      refine mv_aload_n (pc := 30) (i := 0) de_Sc_greatestBalance_30 rfl 1 rfl ?_
      refine mv_aload_n (pc := 31) (i := 0) de_Sc_greatestBalance_31 rfl 1 rfl ?_
      refine mv_getR (pc := 32) (f := 0) (kc_4 l D E B sa) (Nat.le_of_ble_eq_true rfl) wt_1_104 de_Sc_greatestBalance_32 h27 (fun x32 e32 h32 => ?_)
      refine mv_iload_n (pc := 35) (i := 3) de_Sc_greatestBalance_35 rfl 3 rfl ?_
      obtain ⟨a36, ha, h36a⟩ := mj_bindE h32
      subst ha
      refine mv_iald (pc := 36) (t := 0) rfl de_Sc_greatestBalance_36 h36a (fun x36 e36 h36 => ?_)
      obtain ⟨hi37, h37o⟩ := mj_obE h36
      obtain ⟨r37, Mm37, hz37, h37⟩ := mj_callE h37o
      refine mv_callV (pc := 37) (n := 1) (av := [.int x36]) (rest := [.int x27]) de_Sc_greatestBalance_37 (kc_4 l D E B sa) hi37 (cm_Sc_countRight l D E B sa N Mm20 v0 x36 _ _ hz37) wt_3_199 wt_3_201 wp_16 wt_1_6 wt_3_202 ⟨by decide, by decide, by decide +kernel⟩ rfl ⟨Nat.le_of_ble_eq_true rfl, Nat.le_of_ble_eq_true rfl⟩ (Nat.le_of_ble_eq_true rfl) rfl ?_
      refine mv_isub (pc := 40) de_Sc_greatestBalance_40 ?_
      refine mv_istore (pc := 41) (lv' := [(5, .int (x27 - r37)), (4, .int (2 * r20)), (0, va_rf (some v0)), (1, .long v1), (3, .int v3)]) de_Sc_greatestBalance_41 (Nat.le_of_ble_eq_true rfl) rfl ?_
      refine mv_iload (pc := 43) de_Sc_greatestBalance_43 1 rfl ?_
      refine mv_if_ne (pc := 45) (tgt := 52) de_Sc_greatestBalance_45 (by decide) h37 (fun hc45 h45 => ?_) (fun hc45 h45 => ?_)
      · refine mv_lconst (pc := 48) (v := 1) de_Sc_greatestBalance_48 (by decide) ?_
        refine mv_goto (pc := 49) (tgt := 64) de_Sc_greatestBalance_49 (by decide) ?_
        exact mv_sub [2, 3, 4] rfl (tb_Sc_greatestBalance_64 l D E B sa M0 M1 r N (jb_Sc_greatestBalance_4 N n) ih Mm37 v0 v1 v3 1 h45)
      · refine mv_iload (pc := 52) de_Sc_greatestBalance_52 1 rfl ?_
        refine mv_i2l (pc := 54) de_Sc_greatestBalance_54 ?_
        refine mv_iload (pc := 55) de_Sc_greatestBalance_55 1 rfl ?_
        refine mv_iload (pc := 57) de_Sc_greatestBalance_57 0 rfl ?_
        refine mv_iadd (pc := 59) de_Sc_greatestBalance_59 ?_
        refine mv_i2l (pc := 60) de_Sc_greatestBalance_60 ?_
        obtain ⟨r61, Mm61, hz61, h61⟩ := mj_callE h45
        refine mv_callS (pc := 61) (n := 2) (av := [.long (2 * r20).toInt64, .long ((2 * r20) + (x27 - r37)).toInt64]) (rest := []) de_Sc_greatestBalance_61 (cm_Fr_of l D E B sa N Mm37 ((2 * r20).toInt64) (((2 * r20) + (x27 - r37)).toInt64) _ _ hz61) wt_3_194 wt_1_35 wt_1_3 wt_1_36 ⟨by decide, by decide, by decide +kernel⟩ rfl ⟨Nat.le_of_ble_eq_true rfl, Nat.le_of_ble_eq_true rfl⟩ (Nat.le_of_ble_eq_true rfl) rfl ?_
        exact mv_sub [2, 3, 4] rfl (tb_Sc_greatestBalance_64 l D E B sa M0 M1 r N (jb_Sc_greatestBalance_4 N n) ih Mm61 v0 v1 v3 r61 h61)
set_option maxHeartbeats 4000000 in
set_option maxRecDepth 100000 in
theorem tb_Sc_greatestBalance_0 (l : Launch) (D : va_G) (E : Nat → ClassId) (B : Nat) (sa : (Nat → Nat) × Nat × (Nat → Int32)) (M0 M1 : mv_M) (r : Int64) (N : Nat) (M : mv_M) (v0 : Nat) (hJ : jb_Sc_greatestBalance_0 N M v0 = some (r, M1)) : mv_G (xg l D E B sa) kd_Sc_greatestBalance M0 M1 (some (.long r)) M 0 [(0, va_rf (some v0))] [] := by
  unfold jb_Sc_greatestBalance_0 at hJ
  refine mv_lconst (pc := 0) (v := 1) de_Sc_greatestBalance_0 (by decide) ?_
  refine mv_lstore_n (pc := 1) (i := 1) (lv' := [(1, .long 1), (0, va_rf (some v0))]) de_Sc_greatestBalance_1 rfl (Nat.le_of_ble_eq_true rfl) rfl ?_
  refine mv_iconst (pc := 2) (v := 0) de_Sc_greatestBalance_2 (by decide) ?_
  refine mv_istore_n (pc := 3) (i := 3) (lv' := [(3, .int 0), (1, .long 1), (0, va_rf (some v0))]) de_Sc_greatestBalance_3 rfl (Nat.le_of_ble_eq_true rfl) rfl ?_
  exact mv_sub [2, 1, 0] rfl (tb_Sc_greatestBalance_4 l D E B sa M0 M1 r N N M v0 1 0 hJ)
theorem cm_Sc_greatestBalance (l : Launch) (D : va_G) (E : Nat → ClassId) (B : Nat) (sa : (Nat → Nat) × Nat × (Nat → Int32)) (N : Nat) (M : mv_M) (v0 : Nat) (r : Int64) (M1 : mv_M) (hJ : jf_Sc_greatestBalance N M v0 = some (r, M1)) : mv_Met (xg l D E B sa) yn_Sc_greatestBalance cd_Sc_greatestBalance 8 (some .long) 2 55 [va_rf (some v0)] M (some (.long r)) M1 :=
  mv_enter (by decide) (Nat.le_of_ble_eq_true rfl) (mv_sub (lv := [(0, va_rf (some v0))]) [0] rfl (tb_Sc_greatestBalance_0 l D E B sa M M1 r N M v0 hJ))
/-! ===== PlainLearner$Scores.countNotBelow(I)I ===== -/
abbrev kd_Sc_countNotBelow : mv_Kd := (cd_Sc_countNotBelow, 4, "PlainLearner$Scores", "countNotBelow", (some .int), 0, 0)
theorem de_Sc_countNotBelow_0 : decode cd_Sc_countNotBelow 0 = .ok (.iconst 0, 1) := by decide +kernel
theorem de_Sc_countNotBelow_1 : decode cd_Sc_countNotBelow 1 = .ok (.istore_n 2, 1) := by decide +kernel
theorem de_Sc_countNotBelow_2 : decode cd_Sc_countNotBelow 2 = .ok (.iconst 0, 1) := by decide +kernel
theorem de_Sc_countNotBelow_3 : decode cd_Sc_countNotBelow 3 = .ok (.istore_n 3, 1) := by decide +kernel
theorem de_Sc_countNotBelow_4 : decode cd_Sc_countNotBelow 4 = .ok (.iload_n 3, 1) := by decide +kernel
theorem de_Sc_countNotBelow_5 : decode cd_Sc_countNotBelow 5 = .ok (.aload_n 0, 1) := by decide +kernel
theorem de_Sc_countNotBelow_6 : decode cd_Sc_countNotBelow 6 = .ok (.getfield 19, 3) := by decide +kernel
theorem de_Sc_countNotBelow_9 : decode cd_Sc_countNotBelow 9 = .ok (.if_icmp .ge 22, 3) := by decide +kernel
theorem de_Sc_countNotBelow_12 : decode cd_Sc_countNotBelow 12 = .ok (.aload_n 0, 1) := by decide +kernel
theorem de_Sc_countNotBelow_13 : decode cd_Sc_countNotBelow 13 = .ok (.getfield 11, 3) := by decide +kernel
theorem de_Sc_countNotBelow_16 : decode cd_Sc_countNotBelow 16 = .ok (.iload_n 3, 1) := by decide +kernel
theorem de_Sc_countNotBelow_17 : decode cd_Sc_countNotBelow 17 = .ok (.iaload, 1) := by decide +kernel
theorem de_Sc_countNotBelow_18 : decode cd_Sc_countNotBelow 18 = .ok (.iload_n 1, 1) := by decide +kernel
theorem de_Sc_countNotBelow_19 : decode cd_Sc_countNotBelow 19 = .ok (.if_icmp .lt 6, 3) := by decide +kernel
theorem de_Sc_countNotBelow_22 : decode cd_Sc_countNotBelow 22 = .ok (.iinc 2 1, 3) := by decide +kernel
theorem de_Sc_countNotBelow_25 : decode cd_Sc_countNotBelow 25 = .ok (.iinc 3 1, 3) := by decide +kernel
theorem de_Sc_countNotBelow_28 : decode cd_Sc_countNotBelow 28 = .ok (.goto (-24), 3) := by decide +kernel
theorem de_Sc_countNotBelow_31 : decode cd_Sc_countNotBelow 31 = .ok (.iload_n 2, 1) := by decide +kernel
theorem de_Sc_countNotBelow_32 : decode cd_Sc_countNotBelow 32 = .ok (.ireturn, 1) := by decide +kernel
def jb_Sc_countNotBelow_25 (N : Nat) (k4 : mv_M → Nat → Int32 → Int32 → Int32 → Option (Int32 × mv_M)) (M : mv_M) (v0 : Nat) (v1 : Int32) (v2 : Int32) (v3 : Int32) : Option (Int32 × mv_M) :=
  k4 M v0 v1 v2 (v3 + 1)
def jb_Sc_countNotBelow_4 (N : Nat) : Nat → mv_M → Nat → Int32 → Int32 → Int32 → Option (Int32 × mv_M)
  | 0, _, _, _, _, _ => none
  | n + 1, M, v0, v1, v2, v3 =>
    Option.bind (mj_getI M v0 4 2) fun x6 =>
    if x6 ≤ v3 then (some (v2, M)) else
    Option.bind (mj_getR M v0 4 0) fun x13 =>
    Option.bind x13 fun a17 =>
    Option.bind (mj_ild M a17 0 v3) fun x17 =>
    if x17 < v1 then (jb_Sc_countNotBelow_25 N (jb_Sc_countNotBelow_4 N n) M v0 v1 v2 v3) else
    jb_Sc_countNotBelow_25 N (jb_Sc_countNotBelow_4 N n) M v0 v1 (v2 + 1) v3
def jb_Sc_countNotBelow_0 (N : Nat) (M : mv_M) (v0 : Nat) (v1 : Int32) : Option (Int32 × mv_M) :=
  jb_Sc_countNotBelow_4 N N M v0 v1 0 0
def jf_Sc_countNotBelow (N : Nat) (M : mv_M) (v0 : Nat) (v1 : Int32) : Option (Int32 × mv_M) := jb_Sc_countNotBelow_0 N M v0 v1
set_option maxHeartbeats 4000000 in
set_option maxRecDepth 100000 in
theorem tb_Sc_countNotBelow_25 (l : Launch) (D : va_G) (E : Nat → ClassId) (B : Nat) (sa : (Nat → Nat) × Nat × (Nat → Int32)) (M0 M1 : mv_M) (r : Int32) (N : Nat) (k4 : mv_M → Nat → Int32 → Int32 → Int32 → Option (Int32 × mv_M)) (hk4 : ∀ (M : mv_M) (v0 : Nat) (v1 : Int32) (v2 : Int32) (v3 : Int32), k4 M v0 v1 v2 v3 = some (r, M1) → mv_G (xg l D E B sa) kd_Sc_countNotBelow M0 M1 (some (.int r)) M 4 [(0, va_rf (some v0)), (1, .int v1), (2, .int v2), (3, .int v3)] []) (M : mv_M) (v0 : Nat) (v1 : Int32) (v2 : Int32) (v3 : Int32) (hJ : jb_Sc_countNotBelow_25 N k4 M v0 v1 v2 v3 = some (r, M1)) : mv_G (xg l D E B sa) kd_Sc_countNotBelow M0 M1 (some (.int r)) M 25 [(0, va_rf (some v0)), (1, .int v1), (2, .int v2), (3, .int v3)] [] := by
  unfold jb_Sc_countNotBelow_25 at hJ
  refine mv_iinc (pc := 25) (v := (v3 + 1)) (lv' := [(3, .int (v3 + 1)), (0, va_rf (some v0)), (1, .int v1), (2, .int v2)]) de_Sc_countNotBelow_25 3 rfl rfl (Nat.le_of_ble_eq_true rfl) rfl ?_
  refine mv_goto (pc := 28) (tgt := 4) de_Sc_countNotBelow_28 (by decide) ?_
  exact mv_sub [1, 2, 3, 0] rfl (hk4 M v0 v1 v2 (v3 + 1) hJ)
set_option maxHeartbeats 4000000 in
set_option maxRecDepth 100000 in
theorem tb_Sc_countNotBelow_4 (l : Launch) (D : va_G) (E : Nat → ClassId) (B : Nat) (sa : (Nat → Nat) × Nat × (Nat → Int32)) (M0 M1 : mv_M) (r : Int32) (N : Nat) : ∀ (n : Nat) (M : mv_M) (v0 : Nat) (v1 : Int32) (v2 : Int32) (v3 : Int32) (hJ : jb_Sc_countNotBelow_4 N n M v0 v1 v2 v3 = some (r, M1)), mv_G (xg l D E B sa) kd_Sc_countNotBelow M0 M1 (some (.int r)) M 4 [(0, va_rf (some v0)), (1, .int v1), (2, .int v2), (3, .int v3)] [] := by
  intro n
  induction n with
  | zero => intro M v0 v1 v2 v3 hJ; cases hJ
  | succ n ih =>
    intro M v0 v1 v2 v3 hJ
    rw [jb_Sc_countNotBelow_4] at hJ
    refine mv_iload_n (pc := 4) (i := 3) de_Sc_countNotBelow_4 rfl 3 rfl ?_
    refine mv_aload_n (pc := 5) (i := 0) de_Sc_countNotBelow_5 rfl 0 rfl ?_
    refine mv_getI (pc := 6) (f := 2) (kc_4 l D E B sa) (Nat.le_of_ble_eq_true rfl) wt_1_106 de_Sc_countNotBelow_6 hJ (fun x6 e6 h6 => ?_)
    refine mv_icmp_ge (pc := 9) (tgt := 31) de_Sc_countNotBelow_9 (by decide) h6 (fun hc9 h9 => ?_) (fun hc9 h9 => ?_)
    · refine mv_iload_n (pc := 31) (i := 2) de_Sc_countNotBelow_31 rfl 2 rfl ?_
      exact mv_iret (pc := 32) rfl de_Sc_countNotBelow_32 h9
    · refine mv_aload_n (pc := 12) (i := 0) de_Sc_countNotBelow_12 rfl 0 rfl ?_
      refine mv_getR (pc := 13) (f := 0) (kc_4 l D E B sa) (Nat.le_of_ble_eq_true rfl) wt_1_104 de_Sc_countNotBelow_13 h9 (fun x13 e13 h13 => ?_)
      refine mv_iload_n (pc := 16) (i := 3) de_Sc_countNotBelow_16 rfl 3 rfl ?_
      obtain ⟨a17, ha, h17a⟩ := mj_bindE h13
      subst ha
      refine mv_iald (pc := 17) (t := 0) rfl de_Sc_countNotBelow_17 h17a (fun x17 e17 h17 => ?_)
      refine mv_iload_n (pc := 18) (i := 1) de_Sc_countNotBelow_18 rfl 1 rfl ?_
      refine mv_icmp_lt (pc := 19) (tgt := 25) de_Sc_countNotBelow_19 (by decide) h17 (fun hc19 h19 => ?_) (fun hc19 h19 => ?_)
      · exact mv_sub [0, 1, 2, 3] rfl (tb_Sc_countNotBelow_25 l D E B sa M0 M1 r N (jb_Sc_countNotBelow_4 N n) ih M v0 v1 v2 v3 h19)
      · refine mv_iinc (pc := 22) (v := (v2 + 1)) (lv' := [(2, .int (v2 + 1)), (0, va_rf (some v0)), (1, .int v1), (3, .int v3)]) de_Sc_countNotBelow_22 2 rfl rfl (Nat.le_of_ble_eq_true rfl) rfl ?_
        exact mv_sub [1, 2, 0, 3] rfl (tb_Sc_countNotBelow_25 l D E B sa M0 M1 r N (jb_Sc_countNotBelow_4 N n) ih M v0 v1 (v2 + 1) v3 h19)
set_option maxHeartbeats 4000000 in
set_option maxRecDepth 100000 in
theorem tb_Sc_countNotBelow_0 (l : Launch) (D : va_G) (E : Nat → ClassId) (B : Nat) (sa : (Nat → Nat) × Nat × (Nat → Int32)) (M0 M1 : mv_M) (r : Int32) (N : Nat) (M : mv_M) (v0 : Nat) (v1 : Int32) (hJ : jb_Sc_countNotBelow_0 N M v0 v1 = some (r, M1)) : mv_G (xg l D E B sa) kd_Sc_countNotBelow M0 M1 (some (.int r)) M 0 [(0, va_rf (some v0)), (1, .int v1)] [] := by
  unfold jb_Sc_countNotBelow_0 at hJ
  refine mv_iconst (pc := 0) (v := 0) de_Sc_countNotBelow_0 (by decide) ?_
  refine mv_istore_n (pc := 1) (i := 2) (lv' := [(2, .int 0), (0, va_rf (some v0)), (1, .int v1)]) de_Sc_countNotBelow_1 rfl (Nat.le_of_ble_eq_true rfl) rfl ?_
  refine mv_iconst (pc := 2) (v := 0) de_Sc_countNotBelow_2 (by decide) ?_
  refine mv_istore_n (pc := 3) (i := 3) (lv' := [(3, .int 0), (2, .int 0), (0, va_rf (some v0)), (1, .int v1)]) de_Sc_countNotBelow_3 rfl (Nat.le_of_ble_eq_true rfl) rfl ?_
  exact mv_sub [2, 3, 1, 0] rfl (tb_Sc_countNotBelow_4 l D E B sa M0 M1 r N N M v0 v1 0 0 hJ)
theorem cm_Sc_countNotBelow (l : Launch) (D : va_G) (E : Nat → ClassId) (B : Nat) (sa : (Nat → Nat) × Nat × (Nat → Int32)) (N : Nat) (M : mv_M) (v0 : Nat) (v1 : Int32) (r : Int32) (M1 : mv_M) (hJ : jf_Sc_countNotBelow N M v0 v1 = some (r, M1)) : mv_Met (xg l D E B sa) yn_Sc_countNotBelow cd_Sc_countNotBelow 4 (some .int) 0 0 [va_rf (some v0), .int v1] M (some (.int r)) M1 :=
  mv_enter (by decide) (Nat.le_of_ble_eq_true rfl) (mv_sub (lv := [(0, va_rf (some v0)), (1, .int v1)]) [0, 1] rfl (tb_Sc_countNotBelow_0 l D E B sa M M1 r N M v0 v1 hJ))
/-! ===== PlainLearner$Scores.meanOfPlaces()J ===== -/
abbrev kd_Sc_meanOfPlaces : mv_Kd := (cd_Sc_meanOfPlaces, 4, "PlainLearner$Scores", "meanOfPlaces", (some .long), 2, 61)
theorem de_Sc_meanOfPlaces_0 : decode cd_Sc_meanOfPlaces 0 = .ok (.lconst 1, 1) := by decide +kernel
theorem de_Sc_meanOfPlaces_1 : decode cd_Sc_meanOfPlaces 1 = .ok (.lstore_n 1, 1) := by decide +kernel
theorem de_Sc_meanOfPlaces_2 : decode cd_Sc_meanOfPlaces 2 = .ok (.iconst 0, 1) := by decide +kernel
theorem de_Sc_meanOfPlaces_3 : decode cd_Sc_meanOfPlaces 3 = .ok (.istore_n 3, 1) := by decide +kernel
theorem de_Sc_meanOfPlaces_4 : decode cd_Sc_meanOfPlaces 4 = .ok (.iload_n 3, 1) := by decide +kernel
theorem de_Sc_meanOfPlaces_5 : decode cd_Sc_meanOfPlaces 5 = .ok (.aload_n 0, 1) := by decide +kernel
theorem de_Sc_meanOfPlaces_6 : decode cd_Sc_meanOfPlaces 6 = .ok (.getfield 19, 3) := by decide +kernel
theorem de_Sc_meanOfPlaces_9 : decode cd_Sc_meanOfPlaces 9 = .ok (.if_icmp .ge 38, 3) := by decide +kernel
theorem de_Sc_meanOfPlaces_12 : decode cd_Sc_meanOfPlaces 12 = .ok (.aload_n 0, 1) := by decide +kernel
theorem de_Sc_meanOfPlaces_13 : decode cd_Sc_meanOfPlaces 13 = .ok (.getfield 15, 3) := by decide +kernel
theorem de_Sc_meanOfPlaces_16 : decode cd_Sc_meanOfPlaces 16 = .ok (.iload_n 3, 1) := by decide +kernel
theorem de_Sc_meanOfPlaces_17 : decode cd_Sc_meanOfPlaces 17 = .ok (.baload, 1) := by decide +kernel
theorem de_Sc_meanOfPlaces_18 : decode cd_Sc_meanOfPlaces 18 = .ok (.ifCond .eq 23, 3) := by decide +kernel
theorem de_Sc_meanOfPlaces_21 : decode cd_Sc_meanOfPlaces 21 = .ok (.lload_n 1, 1) := by decide +kernel
theorem de_Sc_meanOfPlaces_22 : decode cd_Sc_meanOfPlaces 22 = .ok (.lconst 1, 1) := by decide +kernel
theorem de_Sc_meanOfPlaces_23 : decode cd_Sc_meanOfPlaces 23 = .ok (.aload_n 0, 1) := by decide +kernel
theorem de_Sc_meanOfPlaces_24 : decode cd_Sc_meanOfPlaces 24 = .ok (.aload_n 0, 1) := by decide +kernel
theorem de_Sc_meanOfPlaces_25 : decode cd_Sc_meanOfPlaces 25 = .ok (.getfield 11, 3) := by decide +kernel
theorem de_Sc_meanOfPlaces_28 : decode cd_Sc_meanOfPlaces 28 = .ok (.iload_n 3, 1) := by decide +kernel
theorem de_Sc_meanOfPlaces_29 : decode cd_Sc_meanOfPlaces 29 = .ok (.iaload, 1) := by decide +kernel
theorem de_Sc_meanOfPlaces_30 : decode cd_Sc_meanOfPlaces 30 = .ok (.invokevirtual 65, 3) := by decide +kernel
theorem de_Sc_meanOfPlaces_33 : decode cd_Sc_meanOfPlaces 33 = .ok (.i2l, 1) := by decide +kernel
theorem de_Sc_meanOfPlaces_34 : decode cd_Sc_meanOfPlaces 34 = .ok (.invokestatic 42, 3) := by decide +kernel
theorem de_Sc_meanOfPlaces_37 : decode cd_Sc_meanOfPlaces 37 = .ok (.invokestatic 68, 3) := by decide +kernel
theorem de_Sc_meanOfPlaces_40 : decode cd_Sc_meanOfPlaces 40 = .ok (.lstore_n 1, 1) := by decide +kernel
theorem de_Sc_meanOfPlaces_41 : decode cd_Sc_meanOfPlaces 41 = .ok (.iinc 3 1, 3) := by decide +kernel
theorem de_Sc_meanOfPlaces_44 : decode cd_Sc_meanOfPlaces 44 = .ok (.goto (-40), 3) := by decide +kernel
theorem de_Sc_meanOfPlaces_47 : decode cd_Sc_meanOfPlaces 47 = .ok (.lload_n 1, 1) := by decide +kernel
theorem de_Sc_meanOfPlaces_48 : decode cd_Sc_meanOfPlaces 48 = .ok (.aload_n 0, 1) := by decide +kernel
theorem de_Sc_meanOfPlaces_49 : decode cd_Sc_meanOfPlaces 49 = .ok (.invokevirtual 36, 3) := by decide +kernel
theorem de_Sc_meanOfPlaces_52 : decode cd_Sc_meanOfPlaces 52 = .ok (.invokestatic 71, 3) := by decide +kernel
theorem de_Sc_meanOfPlaces_55 : decode cd_Sc_meanOfPlaces 55 = .ok (.invokestatic 75, 3) := by decide +kernel
theorem de_Sc_meanOfPlaces_58 : decode cd_Sc_meanOfPlaces 58 = .ok (.invokestatic 79, 3) := by decide +kernel
theorem de_Sc_meanOfPlaces_61 : decode cd_Sc_meanOfPlaces 61 = .ok (.lreturn, 1) := by decide +kernel
def jb_Sc_meanOfPlaces_41 (N : Nat) (k4 : mv_M → Nat → Int64 → Int32 → Option (Int64 × mv_M)) (M : mv_M) (v0 : Nat) (v1 : Int64) (v3 : Int32) : Option (Int64 × mv_M) :=
  k4 M v0 v1 (v3 + 1)
def jb_Sc_meanOfPlaces_4 (N : Nat) : Nat → mv_M → Nat → Int64 → Int32 → Option (Int64 × mv_M)
  | 0, _, _, _, _ => none
  | n + 1, M, v0, v1, v3 =>
    Option.bind (mj_getI M v0 4 2) fun x6 =>
    if x6 ≤ v3 then (mj_ob M v0 4 <|
    mj_call (jf_Sc_countYes N M v0) fun r49 Mm49 =>
    mj_call (jf_Fr_whole N Mm49 r49) fun r52 Mm52 =>
    mj_call (jf_Fr_inverse N Mm52 r52) fun r55 Mm55 =>
    mj_call (jf_Fr_times N Mm55 v1 r55) fun r58 Mm58 =>
    some (r58, Mm58)) else
    Option.bind (mj_getR M v0 4 1) fun x13 =>
    Option.bind x13 fun a17 =>
    Option.bind (mj_ild M a17 2 v3) fun x17 =>
    if x17 = 0 then (jb_Sc_meanOfPlaces_41 N (jb_Sc_meanOfPlaces_4 N n) M v0 v1 v3) else
    Option.bind (mj_getR M v0 4 0) fun x25 =>
    Option.bind x25 fun a29 =>
    Option.bind (mj_ild M a29 0 v3) fun x29 =>
    mj_ob M v0 4 <|
    mj_call (jf_Sc_countNotBelow N M v0 x29) fun r30 Mm30 =>
    mj_call (jf_Fr_of N Mm30 1 r30.toInt64) fun r34 Mm34 =>
    mj_call (jf_Fr_add N Mm34 v1 r34) fun r37 Mm37 =>
    jb_Sc_meanOfPlaces_41 N (jb_Sc_meanOfPlaces_4 N n) Mm37 v0 r37 v3
def jb_Sc_meanOfPlaces_0 (N : Nat) (M : mv_M) (v0 : Nat) : Option (Int64 × mv_M) :=
  jb_Sc_meanOfPlaces_4 N N M v0 1 0
def jf_Sc_meanOfPlaces (N : Nat) (M : mv_M) (v0 : Nat) : Option (Int64 × mv_M) := jb_Sc_meanOfPlaces_0 N M v0
set_option maxHeartbeats 4000000 in
set_option maxRecDepth 100000 in
theorem tb_Sc_meanOfPlaces_41 (l : Launch) (D : va_G) (E : Nat → ClassId) (B : Nat) (sa : (Nat → Nat) × Nat × (Nat → Int32)) (M0 M1 : mv_M) (r : Int64) (N : Nat) (k4 : mv_M → Nat → Int64 → Int32 → Option (Int64 × mv_M)) (hk4 : ∀ (M : mv_M) (v0 : Nat) (v1 : Int64) (v3 : Int32), k4 M v0 v1 v3 = some (r, M1) → mv_G (xg l D E B sa) kd_Sc_meanOfPlaces M0 M1 (some (.long r)) M 4 [(0, va_rf (some v0)), (1, .long v1), (3, .int v3)] []) (M : mv_M) (v0 : Nat) (v1 : Int64) (v3 : Int32) (hJ : jb_Sc_meanOfPlaces_41 N k4 M v0 v1 v3 = some (r, M1)) : mv_G (xg l D E B sa) kd_Sc_meanOfPlaces M0 M1 (some (.long r)) M 41 [(0, va_rf (some v0)), (1, .long v1), (3, .int v3)] [] := by
  unfold jb_Sc_meanOfPlaces_41 at hJ
  refine mv_iinc (pc := 41) (v := (v3 + 1)) (lv' := [(3, .int (v3 + 1)), (0, va_rf (some v0)), (1, .long v1)]) de_Sc_meanOfPlaces_41 2 rfl rfl (Nat.le_of_ble_eq_true rfl) rfl ?_
  refine mv_goto (pc := 44) (tgt := 4) de_Sc_meanOfPlaces_44 (by decide) ?_
  exact mv_sub [1, 2, 0] rfl (hk4 M v0 v1 (v3 + 1) hJ)
set_option maxHeartbeats 4000000 in
set_option maxRecDepth 100000 in
theorem tb_Sc_meanOfPlaces_4 (l : Launch) (D : va_G) (E : Nat → ClassId) (B : Nat) (sa : (Nat → Nat) × Nat × (Nat → Int32)) (M0 M1 : mv_M) (r : Int64) (N : Nat) : ∀ (n : Nat) (M : mv_M) (v0 : Nat) (v1 : Int64) (v3 : Int32) (hJ : jb_Sc_meanOfPlaces_4 N n M v0 v1 v3 = some (r, M1)), mv_G (xg l D E B sa) kd_Sc_meanOfPlaces M0 M1 (some (.long r)) M 4 [(0, va_rf (some v0)), (1, .long v1), (3, .int v3)] [] := by
  intro n
  induction n with
  | zero => intro M v0 v1 v3 hJ; cases hJ
  | succ n ih =>
    intro M v0 v1 v3 hJ
    rw [jb_Sc_meanOfPlaces_4] at hJ
    refine mv_iload_n (pc := 4) (i := 3) de_Sc_meanOfPlaces_4 rfl 2 rfl ?_
    refine mv_aload_n (pc := 5) (i := 0) de_Sc_meanOfPlaces_5 rfl 0 rfl ?_
    refine mv_getI (pc := 6) (f := 2) (kc_4 l D E B sa) (Nat.le_of_ble_eq_true rfl) wt_1_106 de_Sc_meanOfPlaces_6 hJ (fun x6 e6 h6 => ?_)
    refine mv_icmp_ge (pc := 9) (tgt := 47) de_Sc_meanOfPlaces_9 (by decide) h6 (fun hc9 h9 => ?_) (fun hc9 h9 => ?_)
    · refine mv_lload_n (pc := 47) (i := 1) de_Sc_meanOfPlaces_47 rfl 1 rfl ?_
      refine mv_aload_n (pc := 48) (i := 0) de_Sc_meanOfPlaces_48 rfl 0 rfl ?_
      obtain ⟨hi49, h49o⟩ := mj_obE h9
      obtain ⟨r49, Mm49, hz49, h49⟩ := mj_callE h49o
      refine mv_callV (pc := 49) (n := 0) (av := []) (rest := [.long v1]) de_Sc_meanOfPlaces_49 (kc_4 l D E B sa) hi49 (cm_Sc_countYes l D E B sa N M v0 _ _ hz49) wt_3_189 wt_3_191 wp_14 wt_1_6 wt_3_192 ⟨by decide, by decide, by decide +kernel⟩ rfl ⟨Nat.le_of_ble_eq_true rfl, Nat.le_of_ble_eq_true rfl⟩ (Nat.le_of_ble_eq_true rfl) rfl ?_
      obtain ⟨r52, Mm52, hz52, h52⟩ := mj_callE h49
      refine mv_callS (pc := 52) (n := 1) (av := [.int r49]) (rest := [.long v1]) de_Sc_meanOfPlaces_52 (cm_Fr_whole l D E B sa N Mm49 r49 _ _ hz52) wt_3_222 wt_2_209 wt_1_3 wt_2_210 ⟨by decide, by decide, by decide +kernel⟩ rfl ⟨Nat.le_of_ble_eq_true rfl, Nat.le_of_ble_eq_true rfl⟩ (Nat.le_of_ble_eq_true rfl) rfl ?_
      obtain ⟨r55, Mm55, hz55, h55⟩ := mj_callE h52
      refine mv_callS (pc := 55) (n := 1) (av := [.long r52]) (rest := [.long v1]) de_Sc_meanOfPlaces_55 (cm_Fr_inverse l D E B sa N Mm52 r52 _ _ hz55) wt_3_223 wt_2_206 wt_1_3 wt_2_207 ⟨by decide, by decide, by decide +kernel⟩ rfl ⟨Nat.le_of_ble_eq_true rfl, Nat.le_of_ble_eq_true rfl⟩ (Nat.le_of_ble_eq_true rfl) rfl ?_
      obtain ⟨r58, Mm58, hz58, h58⟩ := mj_callE h55
      refine mv_callS (pc := 58) (n := 2) (av := [.long v1, .long r55]) (rest := []) de_Sc_meanOfPlaces_58 (cm_Fr_times l D E B sa N Mm55 v1 r55 _ _ hz58) wt_3_224 wt_2_221 wt_1_3 wt_2_222 ⟨by decide, by decide, by decide +kernel⟩ rfl ⟨Nat.le_of_ble_eq_true rfl, Nat.le_of_ble_eq_true rfl⟩ (Nat.le_of_ble_eq_true rfl) rfl ?_
      exact mv_lret (pc := 61) rfl de_Sc_meanOfPlaces_61 h58
    · refine mv_aload_n (pc := 12) (i := 0) de_Sc_meanOfPlaces_12 rfl 0 rfl ?_
      refine mv_getR (pc := 13) (f := 1) (kc_4 l D E B sa) (Nat.le_of_ble_eq_true rfl) wt_1_105 de_Sc_meanOfPlaces_13 h9 (fun x13 e13 h13 => ?_)
      refine mv_iload_n (pc := 16) (i := 3) de_Sc_meanOfPlaces_16 rfl 2 rfl ?_
      obtain ⟨a17, ha, h17a⟩ := mj_bindE h13
      subst ha
      refine mv_zald (pc := 17) (t := 2) rfl de_Sc_meanOfPlaces_17 h17a (fun x17 e17 h17 => ?_)
      refine mv_if_eq (pc := 18) (tgt := 41) de_Sc_meanOfPlaces_18 (by decide) h17 (fun hc18 h18 => ?_) (fun hc18 h18 => ?_)
      · exact mv_sub [0, 1, 2] rfl (tb_Sc_meanOfPlaces_41 l D E B sa M0 M1 r N (jb_Sc_meanOfPlaces_4 N n) ih M v0 v1 v3 h18)
      · refine mv_lload_n (pc := 21) (i := 1) de_Sc_meanOfPlaces_21 rfl 1 rfl ?_
        refine mv_lconst (pc := 22) (v := 1) de_Sc_meanOfPlaces_22 (by decide) ?_
        refine mv_aload_n (pc := 23) (i := 0) de_Sc_meanOfPlaces_23 rfl 0 rfl ?_
        refine mv_aload_n (pc := 24) (i := 0) de_Sc_meanOfPlaces_24 rfl 0 rfl ?_
        refine mv_getR (pc := 25) (f := 0) (kc_4 l D E B sa) (Nat.le_of_ble_eq_true rfl) wt_1_104 de_Sc_meanOfPlaces_25 h18 (fun x25 e25 h25 => ?_)
        refine mv_iload_n (pc := 28) (i := 3) de_Sc_meanOfPlaces_28 rfl 2 rfl ?_
        obtain ⟨a29, ha, h29a⟩ := mj_bindE h25
        subst ha
        refine mv_iald (pc := 29) (t := 0) rfl de_Sc_meanOfPlaces_29 h29a (fun x29 e29 h29 => ?_)
        obtain ⟨hi30, h30o⟩ := mj_obE h29
        obtain ⟨r30, Mm30, hz30, h30⟩ := mj_callE h30o
        refine mv_callV (pc := 30) (n := 1) (av := [.int x29]) (rest := [.long 1, .long v1]) de_Sc_meanOfPlaces_30 (kc_4 l D E B sa) hi30 (cm_Sc_countNotBelow l D E B sa N M v0 x29 _ _ hz30) wt_3_217 wt_3_219 wp_20 wt_1_6 wt_3_220 ⟨by decide, by decide, by decide +kernel⟩ rfl ⟨Nat.le_of_ble_eq_true rfl, Nat.le_of_ble_eq_true rfl⟩ (Nat.le_of_ble_eq_true rfl) rfl ?_
        refine mv_i2l (pc := 33) de_Sc_meanOfPlaces_33 ?_
        obtain ⟨r34, Mm34, hz34, h34⟩ := mj_callE h30
        refine mv_callS (pc := 34) (n := 2) (av := [.long 1, .long r30.toInt64]) (rest := [.long v1]) de_Sc_meanOfPlaces_34 (cm_Fr_of l D E B sa N Mm30 1 r30.toInt64 _ _ hz34) wt_3_194 wt_1_35 wt_1_3 wt_1_36 ⟨by decide, by decide, by decide +kernel⟩ rfl ⟨Nat.le_of_ble_eq_true rfl, Nat.le_of_ble_eq_true rfl⟩ (Nat.le_of_ble_eq_true rfl) rfl ?_
        obtain ⟨r37, Mm37, hz37, h37⟩ := mj_callE h34
        refine mv_callS (pc := 37) (n := 2) (av := [.long v1, .long r34]) (rest := []) de_Sc_meanOfPlaces_37 (cm_Fr_add l D E B sa N Mm34 v1 r34 _ _ hz37) wt_3_221 wt_2_218 wt_1_3 wt_2_219 ⟨by decide, by decide, by decide +kernel⟩ rfl ⟨Nat.le_of_ble_eq_true rfl, Nat.le_of_ble_eq_true rfl⟩ (Nat.le_of_ble_eq_true rfl) rfl ?_
        refine mv_lstore_n (pc := 40) (i := 1) (lv' := [(1, .long r37), (0, va_rf (some v0)), (3, .int v3)]) de_Sc_meanOfPlaces_40 rfl (Nat.le_of_ble_eq_true rfl) rfl ?_
        exact mv_sub [1, 0, 2] rfl (tb_Sc_meanOfPlaces_41 l D E B sa M0 M1 r N (jb_Sc_meanOfPlaces_4 N n) ih Mm37 v0 r37 v3 h37)
set_option maxHeartbeats 4000000 in
set_option maxRecDepth 100000 in
theorem tb_Sc_meanOfPlaces_0 (l : Launch) (D : va_G) (E : Nat → ClassId) (B : Nat) (sa : (Nat → Nat) × Nat × (Nat → Int32)) (M0 M1 : mv_M) (r : Int64) (N : Nat) (M : mv_M) (v0 : Nat) (hJ : jb_Sc_meanOfPlaces_0 N M v0 = some (r, M1)) : mv_G (xg l D E B sa) kd_Sc_meanOfPlaces M0 M1 (some (.long r)) M 0 [(0, va_rf (some v0))] [] := by
  unfold jb_Sc_meanOfPlaces_0 at hJ
  refine mv_lconst (pc := 0) (v := 1) de_Sc_meanOfPlaces_0 (by decide) ?_
  refine mv_lstore_n (pc := 1) (i := 1) (lv' := [(1, .long 1), (0, va_rf (some v0))]) de_Sc_meanOfPlaces_1 rfl (Nat.le_of_ble_eq_true rfl) rfl ?_
  refine mv_iconst (pc := 2) (v := 0) de_Sc_meanOfPlaces_2 (by decide) ?_
  refine mv_istore_n (pc := 3) (i := 3) (lv' := [(3, .int 0), (1, .long 1), (0, va_rf (some v0))]) de_Sc_meanOfPlaces_3 rfl (Nat.le_of_ble_eq_true rfl) rfl ?_
  exact mv_sub [2, 1, 0] rfl (tb_Sc_meanOfPlaces_4 l D E B sa M0 M1 r N N M v0 1 0 hJ)
theorem cm_Sc_meanOfPlaces (l : Launch) (D : va_G) (E : Nat → ClassId) (B : Nat) (sa : (Nat → Nat) × Nat × (Nat → Int32)) (N : Nat) (M : mv_M) (v0 : Nat) (r : Int64) (M1 : mv_M) (hJ : jf_Sc_meanOfPlaces N M v0 = some (r, M1)) : mv_Met (xg l D E B sa) yn_Sc_meanOfPlaces cd_Sc_meanOfPlaces 4 (some .long) 2 61 [va_rf (some v0)] M (some (.long r)) M1 :=
  mv_enter (by decide) (Nat.le_of_ble_eq_true rfl) (mv_sub (lv := [(0, va_rf (some v0))]) [0] rfl (tb_Sc_meanOfPlaces_0 l D E B sa M M1 r N M v0 hJ))
/-! ===== PlainLearner$Scores.scoreOf(I)J ===== -/
abbrev kd_Sc_scoreOf : mv_Kd := (cd_Sc_scoreOf, 2, "PlainLearner$Scores", "scoreOf", (some .long), 3, 84)
theorem de_Sc_scoreOf_0 : decode cd_Sc_scoreOf 0 = .ok (.iload_n 1, 1) := by decide +kernel
theorem de_Sc_scoreOf_1 : decode cd_Sc_scoreOf 1 = .ok (.tableswitch 42 0 2 #[27, 32, 37], 27) := by decide +kernel
theorem de_Sc_scoreOf_28 : decode cd_Sc_scoreOf 28 = .ok (.aload_n 0, 1) := by decide +kernel
theorem de_Sc_scoreOf_29 : decode cd_Sc_scoreOf 29 = .ok (.invokevirtual 23, 3) := by decide +kernel
theorem de_Sc_scoreOf_32 : decode cd_Sc_scoreOf 32 = .ok (.lreturn, 1) := by decide +kernel
theorem de_Sc_scoreOf_33 : decode cd_Sc_scoreOf 33 = .ok (.aload_n 0, 1) := by decide +kernel
theorem de_Sc_scoreOf_34 : decode cd_Sc_scoreOf 34 = .ok (.invokevirtual 27, 3) := by decide +kernel
theorem de_Sc_scoreOf_37 : decode cd_Sc_scoreOf 37 = .ok (.lreturn, 1) := by decide +kernel
theorem de_Sc_scoreOf_38 : decode cd_Sc_scoreOf 38 = .ok (.aload_n 0, 1) := by decide +kernel
theorem de_Sc_scoreOf_39 : decode cd_Sc_scoreOf 39 = .ok (.invokevirtual 30, 3) := by decide +kernel
theorem de_Sc_scoreOf_42 : decode cd_Sc_scoreOf 42 = .ok (.lreturn, 1) := by decide +kernel
theorem de_Sc_scoreOf_43 : decode cd_Sc_scoreOf 43 = .ok (.aload_n 0, 1) := by decide +kernel
theorem de_Sc_scoreOf_44 : decode cd_Sc_scoreOf 44 = .ok (.invokevirtual 33, 3) := by decide +kernel
theorem de_Sc_scoreOf_47 : decode cd_Sc_scoreOf 47 = .ok (.lreturn, 1) := by decide +kernel
def jb_Sc_scoreOf_0 (N : Nat) (M : mv_M) (v0 : Nat) (v1 : Int32) : Option (Int64 × mv_M) :=
  if v1 = 0 then (mj_ob M v0 4 <|
  mj_call (jf_Sc_shareInOrder N M v0) fun r29 Mm29 =>
  some (r29, Mm29)) else
  if v1 = 1 then (mj_ob M v0 4 <|
  mj_call (jf_Sc_greatestShareRight N M v0) fun r34 Mm34 =>
  some (r34, Mm34)) else
  if v1 = 2 then (mj_ob M v0 4 <|
  mj_call (jf_Sc_greatestBalance N M v0) fun r39 Mm39 =>
  some (r39, Mm39)) else
  mj_ob M v0 4 <|
  mj_call (jf_Sc_meanOfPlaces N M v0) fun r44 Mm44 =>
  some (r44, Mm44)
def jf_Sc_scoreOf (N : Nat) (M : mv_M) (v0 : Nat) (v1 : Int32) : Option (Int64 × mv_M) := jb_Sc_scoreOf_0 N M v0 v1
set_option maxHeartbeats 4000000 in
set_option maxRecDepth 100000 in
theorem tb_Sc_scoreOf_0 (l : Launch) (D : va_G) (E : Nat → ClassId) (B : Nat) (sa : (Nat → Nat) × Nat × (Nat → Int32)) (M0 M1 : mv_M) (r : Int64) (N : Nat) (M : mv_M) (v0 : Nat) (v1 : Int32) (hJ : jb_Sc_scoreOf_0 N M v0 v1 = some (r, M1)) : mv_G (xg l D E B sa) kd_Sc_scoreOf M0 M1 (some (.long r)) M 0 [(0, va_rf (some v0)), (1, .int v1)] [] := by
  unfold jb_Sc_scoreOf_0 at hJ
  refine mv_iload_n (pc := 0) (i := 1) de_Sc_scoreOf_0 rfl 1 rfl ?_
  by_cases hs1_0 : v1 = 0
  · rw [if_pos hs1_0] at hJ
    refine mv_tin (pc := 1) (tgt := 28) (off := 27) 0 de_Sc_scoreOf_1 hs1_0 (by decide) (by decide) ?_
    refine mv_aload_n (pc := 28) (i := 0) de_Sc_scoreOf_28 rfl 0 rfl ?_
    obtain ⟨hi29, h29o⟩ := mj_obE hJ
    obtain ⟨r29, Mm29, hz29, h29⟩ := mj_callE h29o
    refine mv_callV (pc := 29) (n := 0) (av := []) (rest := []) de_Sc_scoreOf_29 (kc_4 l D E B sa) hi29 (cm_Sc_shareInOrder l D E B sa N M v0 _ _ hz29) wt_3_185 wt_3_187 wp_13 wt_1_6 wt_3_188 ⟨by decide, by decide, by decide +kernel⟩ rfl ⟨Nat.le_of_ble_eq_true rfl, Nat.le_of_ble_eq_true rfl⟩ (Nat.le_of_ble_eq_true rfl) rfl ?_
    exact mv_lret (pc := 32) rfl de_Sc_scoreOf_32 h29
  rw [if_neg hs1_0] at hJ
  by_cases hs1_1 : v1 = 1
  · rw [if_pos hs1_1] at hJ
    refine mv_tin (pc := 1) (tgt := 33) (off := 32) 1 de_Sc_scoreOf_1 hs1_1 (by decide) (by decide) ?_
    refine mv_aload_n (pc := 33) (i := 0) de_Sc_scoreOf_33 rfl 0 rfl ?_
    obtain ⟨hi34, h34o⟩ := mj_obE hJ
    obtain ⟨r34, Mm34, hz34, h34⟩ := mj_callE h34o
    refine mv_callV (pc := 34) (n := 0) (av := []) (rest := []) de_Sc_scoreOf_34 (kc_4 l D E B sa) hi34 (cm_Sc_greatestShareRight l D E B sa N M v0 _ _ hz34) wt_3_195 wt_3_197 wp_15 wt_1_6 wt_3_198 ⟨by decide, by decide, by decide +kernel⟩ rfl ⟨Nat.le_of_ble_eq_true rfl, Nat.le_of_ble_eq_true rfl⟩ (Nat.le_of_ble_eq_true rfl) rfl ?_
    exact mv_lret (pc := 37) rfl de_Sc_scoreOf_37 h34
  rw [if_neg hs1_1] at hJ
  by_cases hs1_2 : v1 = 2
  · rw [if_pos hs1_2] at hJ
    refine mv_tin (pc := 1) (tgt := 38) (off := 37) 2 de_Sc_scoreOf_1 hs1_2 (by decide) (by decide) ?_
    refine mv_aload_n (pc := 38) (i := 0) de_Sc_scoreOf_38 rfl 0 rfl ?_
    obtain ⟨hi39, h39o⟩ := mj_obE hJ
    obtain ⟨r39, Mm39, hz39, h39⟩ := mj_callE h39o
    refine mv_callV (pc := 39) (n := 0) (av := []) (rest := []) de_Sc_scoreOf_39 (kc_4 l D E B sa) hi39 (cm_Sc_greatestBalance l D E B sa N M v0 _ _ hz39) wt_3_204 wt_3_206 wp_17 wt_1_6 wt_3_207 ⟨by decide, by decide, by decide +kernel⟩ rfl ⟨Nat.le_of_ble_eq_true rfl, Nat.le_of_ble_eq_true rfl⟩ (Nat.le_of_ble_eq_true rfl) rfl ?_
    exact mv_lret (pc := 42) rfl de_Sc_scoreOf_42 h39
  rw [if_neg hs1_2] at hJ
  have qhs1_0 := lv_neT (a := 0) hs1_0 (by decide)
  have qhs1_1 := lv_neT (a := 1) hs1_1 (by decide)
  have qhs1_2 := lv_neT (a := 2) hs1_2 (by decide)
  refine mv_tout (pc := 1) (tgt := 43) de_Sc_scoreOf_1 (by omega) (by decide) ?_
  refine mv_aload_n (pc := 43) (i := 0) de_Sc_scoreOf_43 rfl 0 rfl ?_
  obtain ⟨hi44, h44o⟩ := mj_obE hJ
  obtain ⟨r44, Mm44, hz44, h44⟩ := mj_callE h44o
  refine mv_callV (pc := 44) (n := 0) (av := []) (rest := []) de_Sc_scoreOf_44 (kc_4 l D E B sa) hi44 (cm_Sc_meanOfPlaces l D E B sa N M v0 _ _ hz44) wt_3_213 wt_3_215 wp_19 wt_1_6 wt_3_216 ⟨by decide, by decide, by decide +kernel⟩ rfl ⟨Nat.le_of_ble_eq_true rfl, Nat.le_of_ble_eq_true rfl⟩ (Nat.le_of_ble_eq_true rfl) rfl ?_
  exact mv_lret (pc := 47) rfl de_Sc_scoreOf_47 h44
theorem cm_Sc_scoreOf (l : Launch) (D : va_G) (E : Nat → ClassId) (B : Nat) (sa : (Nat → Nat) × Nat × (Nat → Int32)) (N : Nat) (M : mv_M) (v0 : Nat) (v1 : Int32) (r : Int64) (M1 : mv_M) (hJ : jf_Sc_scoreOf N M v0 v1 = some (r, M1)) : mv_Met (xg l D E B sa) yn_Sc_scoreOf cd_Sc_scoreOf 2 (some .long) 3 84 [va_rf (some v0), .int v1] M (some (.long r)) M1 :=
  mv_enter (by decide) (Nat.le_of_ble_eq_true rfl) (mv_sub (lv := [(0, va_rf (some v0)), (1, .int v1)]) [0, 1] rfl (tb_Sc_scoreOf_0 l D E B sa M M1 r N M v0 v1 hJ))
/-! ===== PlainLearner.score(II)J ===== -/
abbrev kd_PL_score : mv_Kd := (cd_PL_score, 3, "PlainLearner", "score", (some .long), 4, 105)
theorem de_PL_score_0 : decode cd_PL_score 0 = .ok (.iload_n 1, 1) := by decide +kernel
theorem de_PL_score_1 : decode cd_PL_score 1 = .ok (.ifCond .lt 15, 3) := by decide +kernel
theorem de_PL_score_4 : decode cd_PL_score 4 = .ok (.iload_n 1, 1) := by decide +kernel
theorem de_PL_score_5 : decode cd_PL_score 5 = .ok (.iconst 3, 1) := by decide +kernel
theorem de_PL_score_6 : decode cd_PL_score 6 = .ok (.if_icmp .gt 10, 3) := by decide +kernel
theorem de_PL_score_9 : decode cd_PL_score 9 = .ok (.iload_n 2, 1) := by decide +kernel
theorem de_PL_score_10 : decode cd_PL_score 10 = .ok (.invokestatic 82, 3) := by decide +kernel
theorem de_PL_score_13 : decode cd_PL_score 13 = .ok (.ifCond .ne 7, 3) := by decide +kernel
theorem de_PL_score_16 : decode cd_PL_score 16 = .ok (.ldc2_w 85, 3) := by decide +kernel
theorem de_PL_score_19 : decode cd_PL_score 19 = .ok (.lreturn, 1) := by decide +kernel
theorem de_PL_score_20 : decode cd_PL_score 20 = .ok (.aload_n 0, 1) := by decide +kernel
theorem de_PL_score_21 : decode cd_PL_score 21 = .ok (.getfield 33, 3) := by decide +kernel
theorem de_PL_score_24 : decode cd_PL_score 24 = .ok (.iload_n 1, 1) := by decide +kernel
theorem de_PL_score_25 : decode cd_PL_score 25 = .ok (.invokevirtual 159, 3) := by decide +kernel
theorem de_PL_score_28 : decode cd_PL_score 28 = .ok (.iload_n 2, 1) := by decide +kernel
theorem de_PL_score_29 : decode cd_PL_score 29 = .ok (.invokestatic 95, 3) := by decide +kernel
theorem de_PL_score_32 : decode cd_PL_score 32 = .ok (.lreturn, 1) := by decide +kernel
def jb_PL_score_16 (N : Nat) (M : mv_M) : Option (Int64 × mv_M) :=
  some ((-1099511627776), M)
def jb_PL_score_0 (N : Nat) (M : mv_M) (v0 : Nat) (v1 : Int32) (v2 : Int32) : Option (Int64 × mv_M) :=
  if v1 < 0 then (jb_PL_score_16 N M) else
  if 3 < v1 then (jb_PL_score_16 N M) else
  mj_call (jf_PL_isSide N M v2) fun r10 Mm10 =>
  if r10 = 0 then (jb_PL_score_16 N Mm10) else
  Option.bind (mj_getR Mm10 v0 0 3) fun x21 =>
  Option.bind x21 fun a25 =>
  mj_ob Mm10 a25 4 <|
  mj_call (jf_Sc_scoreOf N Mm10 a25 v1) fun r25 Mm25 =>
  mj_call (jf_Fr_sideOf N Mm25 r25 v2) fun r29 Mm29 =>
  some (r29, Mm29)
def jf_PL_score (N : Nat) (M : mv_M) (v0 : Nat) (v1 : Int32) (v2 : Int32) : Option (Int64 × mv_M) := jb_PL_score_0 N M v0 v1 v2
set_option maxHeartbeats 4000000 in
set_option maxRecDepth 100000 in
theorem tb_PL_score_16 (l : Launch) (D : va_G) (E : Nat → ClassId) (B : Nat) (sa : (Nat → Nat) × Nat × (Nat → Int32)) (M0 M1 : mv_M) (r : Int64) (N : Nat) (M : mv_M) (hJ : jb_PL_score_16 N M = some (r, M1)) : mv_G (xg l D E B sa) kd_PL_score M0 M1 (some (.long r)) M 16 [] [] := by
  unfold jb_PL_score_16 at hJ
  refine mv_ldc2 (pc := 16) de_PL_score_16 wt_2_168 ?_
  exact mv_lret (pc := 19) rfl de_PL_score_19 hJ
set_option maxHeartbeats 4000000 in
set_option maxRecDepth 100000 in
theorem tb_PL_score_0 (l : Launch) (D : va_G) (E : Nat → ClassId) (B : Nat) (sa : (Nat → Nat) × Nat × (Nat → Int32)) (M0 M1 : mv_M) (r : Int64) (N : Nat) (M : mv_M) (v0 : Nat) (v1 : Int32) (v2 : Int32) (hJ : jb_PL_score_0 N M v0 v1 v2 = some (r, M1)) : mv_G (xg l D E B sa) kd_PL_score M0 M1 (some (.long r)) M 0 [(0, va_rf (some v0)), (1, .int v1), (2, .int v2)] [] := by
  unfold jb_PL_score_0 at hJ
  refine mv_iload_n (pc := 0) (i := 1) de_PL_score_0 rfl 1 rfl ?_
  refine mv_if_lt (pc := 1) (tgt := 16) de_PL_score_1 (by decide) hJ (fun hc1 h1 => ?_) (fun hc1 h1 => ?_)
  · exact mv_sub [] rfl (tb_PL_score_16 l D E B sa M0 M1 r N M h1)
  · refine mv_iload_n (pc := 4) (i := 1) de_PL_score_4 rfl 1 rfl ?_
    refine mv_iconst (pc := 5) (v := 3) de_PL_score_5 (by decide) ?_
    refine mv_icmp_gt (pc := 6) (tgt := 16) de_PL_score_6 (by decide) h1 (fun hc6 h6 => ?_) (fun hc6 h6 => ?_)
    · exact mv_sub [] rfl (tb_PL_score_16 l D E B sa M0 M1 r N M h6)
    · refine mv_iload_n (pc := 9) (i := 2) de_PL_score_9 rfl 2 rfl ?_
      obtain ⟨r10, Mm10, hz10, h10⟩ := mj_callE h6
      refine mv_callS (pc := 10) (n := 1) (av := [.int v2]) (rest := []) de_PL_score_10 (cm_PL_isSide l D E B sa N M v2 _ _ hz10) wt_2_165 wt_2_166 wt_1_1 wt_2_167 ⟨by decide, by decide, by decide +kernel⟩ rfl ⟨Nat.le_of_ble_eq_true rfl, Nat.le_of_ble_eq_true rfl⟩ (Nat.le_of_ble_eq_true rfl) rfl ?_
      refine mv_if_ne (pc := 13) (tgt := 20) de_PL_score_13 (by decide) h10 (fun hc13 h13 => ?_) (fun hc13 h13 => ?_)
      · exact mv_sub [] rfl (tb_PL_score_16 l D E B sa M0 M1 r N Mm10 h13)
      · refine mv_aload_n (pc := 20) (i := 0) de_PL_score_20 rfl 0 rfl ?_
        refine mv_getR (pc := 21) (f := 3) (kc_0 l D E B sa) (Nat.le_of_ble_eq_true rfl) wt_1_149 de_PL_score_21 h13 (fun x21 e21 h21 => ?_)
        refine mv_iload_n (pc := 24) (i := 1) de_PL_score_24 rfl 1 rfl ?_
        obtain ⟨a25, ha, h25a⟩ := mj_bindE h21
        subst ha
        obtain ⟨hi25, h25o⟩ := mj_obE h25a
        obtain ⟨r25, Mm25, hz25, h25⟩ := mj_callE h25o
        refine mv_callV (pc := 25) (n := 1) (av := [.int v1]) (rest := []) de_PL_score_25 (kc_4 l D E B sa) hi25 (cm_Sc_scoreOf l D E B sa N Mm10 a25 v1 _ _ hz25) wt_3_181 wt_3_182 wt_3_183 wt_1_6 wt_3_184 ⟨by decide, by decide, by decide +kernel⟩ rfl ⟨Nat.le_of_ble_eq_true rfl, Nat.le_of_ble_eq_true rfl⟩ (Nat.le_of_ble_eq_true rfl) rfl ?_
        refine mv_iload_n (pc := 28) (i := 2) de_PL_score_28 rfl 2 rfl ?_
        obtain ⟨r29, Mm29, hz29, h29⟩ := mj_callE h25
        refine mv_callS (pc := 29) (n := 2) (av := [.long r25, .int v2]) (rest := []) de_PL_score_29 (cm_Fr_sideOf l D E B sa N Mm25 r25 v2 _ _ hz29) wt_3_4 wt_3_5 wt_1_3 wt_3_6 ⟨by decide, by decide, by decide +kernel⟩ rfl ⟨Nat.le_of_ble_eq_true rfl, Nat.le_of_ble_eq_true rfl⟩ (Nat.le_of_ble_eq_true rfl) rfl ?_
        exact mv_lret (pc := 32) rfl de_PL_score_32 h29
theorem cm_PL_score (l : Launch) (D : va_G) (E : Nat → ClassId) (B : Nat) (sa : (Nat → Nat) × Nat × (Nat → Int32)) (N : Nat) (M : mv_M) (v0 : Nat) (v1 : Int32) (v2 : Int32) (r : Int64) (M1 : mv_M) (hJ : jf_PL_score N M v0 v1 v2 = some (r, M1)) : mv_Met (xg l D E B sa) yn_PL_score cd_PL_score 3 (some .long) 4 105 [va_rf (some v0), .int v1, .int v2] M (some (.long r)) M1 :=
  mv_enter (by decide) (Nat.le_of_ble_eq_true rfl) (mv_sub (lv := [(0, va_rf (some v0)), (1, .int v1), (2, .int v2)]) [0, 1, 2] rfl (tb_PL_score_0 l D E B sa M M1 r N M v0 v1 v2 hJ))
/-! ===== PlainLearner$Scores.dropAll()I ===== -/
abbrev kd_Sc_dropAll : mv_Kd := (cd_Sc_dropAll, 2, "PlainLearner$Scores", "dropAll", (some .int), 0, 0)
theorem de_Sc_dropAll_0 : decode cd_Sc_dropAll 0 = .ok (.aload_n 0, 1) := by decide +kernel
theorem de_Sc_dropAll_1 : decode cd_Sc_dropAll 1 = .ok (.getfield 19, 3) := by decide +kernel
theorem de_Sc_dropAll_4 : decode cd_Sc_dropAll 4 = .ok (.istore_n 1, 1) := by decide +kernel
theorem de_Sc_dropAll_5 : decode cd_Sc_dropAll 5 = .ok (.aload_n 0, 1) := by decide +kernel
theorem de_Sc_dropAll_6 : decode cd_Sc_dropAll 6 = .ok (.iconst 0, 1) := by decide +kernel
theorem de_Sc_dropAll_7 : decode cd_Sc_dropAll 7 = .ok (.putfield 19, 3) := by decide +kernel
theorem de_Sc_dropAll_10 : decode cd_Sc_dropAll 10 = .ok (.iload_n 1, 1) := by decide +kernel
theorem de_Sc_dropAll_11 : decode cd_Sc_dropAll 11 = .ok (.ireturn, 1) := by decide +kernel
def jb_Sc_dropAll_0 (N : Nat) (M : mv_M) (v0 : Nat) : Option (Int32 × mv_M) :=
  Option.bind (mj_getI M v0 4 2) fun x1 =>
  Option.bind (mj_put M v0 4 2 (.int 0)) fun Mm7 =>
  some (x1, Mm7)
def jf_Sc_dropAll (N : Nat) (M : mv_M) (v0 : Nat) : Option (Int32 × mv_M) := jb_Sc_dropAll_0 N M v0
set_option maxHeartbeats 4000000 in
set_option maxRecDepth 100000 in
theorem tb_Sc_dropAll_0 (l : Launch) (D : va_G) (E : Nat → ClassId) (B : Nat) (sa : (Nat → Nat) × Nat × (Nat → Int32)) (M0 M1 : mv_M) (r : Int32) (N : Nat) (M : mv_M) (v0 : Nat) (hJ : jb_Sc_dropAll_0 N M v0 = some (r, M1)) : mv_G (xg l D E B sa) kd_Sc_dropAll M0 M1 (some (.int r)) M 0 [(0, va_rf (some v0))] [] := by
  unfold jb_Sc_dropAll_0 at hJ
  refine mv_aload_n (pc := 0) (i := 0) de_Sc_dropAll_0 rfl 0 rfl ?_
  refine mv_getI (pc := 1) (f := 2) (kc_4 l D E B sa) (Nat.le_of_ble_eq_true rfl) wt_1_106 de_Sc_dropAll_1 hJ (fun x1 e1 h1 => ?_)
  refine mv_istore_n (pc := 4) (i := 1) (lv' := [(1, .int x1), (0, va_rf (some v0))]) de_Sc_dropAll_4 rfl (Nat.le_of_ble_eq_true rfl) rfl ?_
  refine mv_aload_n (pc := 5) (i := 0) de_Sc_dropAll_5 rfl 1 rfl ?_
  refine mv_iconst (pc := 6) (v := 0) de_Sc_dropAll_6 (by decide) ?_
  refine mv_put (pc := 7) (f := 2) (kc_4 l D E B sa) (Nat.le_of_ble_eq_true rfl) wt_1_106 rfl rfl rfl de_Sc_dropAll_7 h1 (fun Mm7 e7 h7 => ?_)
  refine mv_iload_n (pc := 10) (i := 1) de_Sc_dropAll_10 rfl 0 rfl ?_
  exact mv_iret (pc := 11) rfl de_Sc_dropAll_11 h7
theorem cm_Sc_dropAll (l : Launch) (D : va_G) (E : Nat → ClassId) (B : Nat) (sa : (Nat → Nat) × Nat × (Nat → Int32)) (N : Nat) (M : mv_M) (v0 : Nat) (r : Int32) (M1 : mv_M) (hJ : jf_Sc_dropAll N M v0 = some (r, M1)) : mv_Met (xg l D E B sa) yn_Sc_dropAll cd_Sc_dropAll 2 (some .int) 0 0 [va_rf (some v0)] M (some (.int r)) M1 :=
  mv_enter (by decide) (Nat.le_of_ble_eq_true rfl) (mv_sub (lv := [(0, va_rf (some v0))]) [0] rfl (tb_Sc_dropAll_0 l D E B sa M M1 r N M v0 hJ))
/-! ===== PlainLearner.forget()I ===== -/
abbrev kd_PL_forget : mv_Kd := (cd_PL_forget, 1, "PlainLearner", "forget", (some .int), 1, 21)
theorem de_PL_forget_0 : decode cd_PL_forget 0 = .ok (.aload_n 0, 1) := by decide +kernel
theorem de_PL_forget_1 : decode cd_PL_forget 1 = .ok (.getfield 33, 3) := by decide +kernel
theorem de_PL_forget_4 : decode cd_PL_forget 4 = .ok (.invokevirtual 162, 3) := by decide +kernel
theorem de_PL_forget_7 : decode cd_PL_forget 7 = .ok (.ireturn, 1) := by decide +kernel
def jb_PL_forget_0 (N : Nat) (M : mv_M) (v0 : Nat) : Option (Int32 × mv_M) :=
  Option.bind (mj_getR M v0 0 3) fun x1 =>
  Option.bind x1 fun a4 =>
  mj_ob M a4 4 <|
  mj_call (jf_Sc_dropAll N M a4) fun r4 Mm4 =>
  some (r4, Mm4)
def jf_PL_forget (N : Nat) (M : mv_M) (v0 : Nat) : Option (Int32 × mv_M) := jb_PL_forget_0 N M v0
set_option maxHeartbeats 4000000 in
set_option maxRecDepth 100000 in
theorem tb_PL_forget_0 (l : Launch) (D : va_G) (E : Nat → ClassId) (B : Nat) (sa : (Nat → Nat) × Nat × (Nat → Int32)) (M0 M1 : mv_M) (r : Int32) (N : Nat) (M : mv_M) (v0 : Nat) (hJ : jb_PL_forget_0 N M v0 = some (r, M1)) : mv_G (xg l D E B sa) kd_PL_forget M0 M1 (some (.int r)) M 0 [(0, va_rf (some v0))] [] := by
  unfold jb_PL_forget_0 at hJ
  refine mv_aload_n (pc := 0) (i := 0) de_PL_forget_0 rfl 0 rfl ?_
  refine mv_getR (pc := 1) (f := 3) (kc_0 l D E B sa) (Nat.le_of_ble_eq_true rfl) wt_1_149 de_PL_forget_1 hJ (fun x1 e1 h1 => ?_)
  obtain ⟨a4, ha, h4a⟩ := mj_bindE h1
  subst ha
  obtain ⟨hi4, h4o⟩ := mj_obE h4a
  obtain ⟨r4, Mm4, hz4, h4⟩ := mj_callE h4o
  refine mv_callV (pc := 4) (n := 0) (av := []) (rest := []) de_PL_forget_4 (kc_4 l D E B sa) hi4 (cm_Sc_dropAll l D E B sa N M a4 _ _ hz4) wt_3_229 wt_3_230 wt_3_231 wt_1_6 wt_3_232 ⟨by decide, by decide, by decide +kernel⟩ rfl ⟨Nat.le_of_ble_eq_true rfl, Nat.le_of_ble_eq_true rfl⟩ (Nat.le_of_ble_eq_true rfl) rfl ?_
  exact mv_iret (pc := 7) rfl de_PL_forget_7 h4
theorem cm_PL_forget (l : Launch) (D : va_G) (E : Nat → ClassId) (B : Nat) (sa : (Nat → Nat) × Nat × (Nat → Int32)) (N : Nat) (M : mv_M) (v0 : Nat) (r : Int32) (M1 : mv_M) (hJ : jf_PL_forget N M v0 = some (r, M1)) : mv_Met (xg l D E B sa) yn_PL_forget cd_PL_forget 1 (some .int) 1 21 [va_rf (some v0)] M (some (.int r)) M1 :=
  mv_enter (by decide) (Nat.le_of_ble_eq_true rfl) (mv_sub (lv := [(0, va_rf (some v0))]) [0] rfl (tb_PL_forget_0 l D E B sa M M1 r N M v0 hJ))
/-! ===== PlainLearner$Tokens.letterAt(JI)I ===== -/
abbrev kd_Tk_letterAt : mv_Kd := (cd_Tk_letterAt, 3, "PlainLearner$Tokens", "letterAt", (some .int), 0, 0)
theorem de_Tk_letterAt_0 : decode cd_Tk_letterAt 0 = .ok (.lload_n 0, 1) := by decide +kernel
theorem de_Tk_letterAt_1 : decode cd_Tk_letterAt 1 = .ok (.bipush 8, 2) := by decide +kernel
theorem de_Tk_letterAt_3 : decode cd_Tk_letterAt 3 = .ok (.iload_n 2, 1) := by decide +kernel
theorem de_Tk_letterAt_4 : decode cd_Tk_letterAt 4 = .ok (.imul, 1) := by decide +kernel
theorem de_Tk_letterAt_5 : decode cd_Tk_letterAt 5 = .ok (.lushr, 1) := by decide +kernel
theorem de_Tk_letterAt_6 : decode cd_Tk_letterAt 6 = .ok (.ldc2_w 35, 3) := by decide +kernel
theorem de_Tk_letterAt_9 : decode cd_Tk_letterAt 9 = .ok (.land, 1) := by decide +kernel
theorem de_Tk_letterAt_10 : decode cd_Tk_letterAt 10 = .ok (.l2i, 1) := by decide +kernel
theorem de_Tk_letterAt_11 : decode cd_Tk_letterAt 11 = .ok (.bipush 97, 2) := by decide +kernel
theorem de_Tk_letterAt_13 : decode cd_Tk_letterAt 13 = .ok (.isub, 1) := by decide +kernel
theorem de_Tk_letterAt_14 : decode cd_Tk_letterAt 14 = .ok (.ireturn, 1) := by decide +kernel
def jb_Tk_letterAt_0 (N : Nat) (M : mv_M) (v0 : Int64) (v2 : Int32) : Option (Int32 × mv_M) :=
  some (((((v0.toUInt64 >>> (((8 * v2) : Int32).toInt64.toUInt64 &&& Int64.toUInt64 63)).toInt64) &&& 255).toInt32 - 97), M)
def jf_Tk_letterAt (N : Nat) (M : mv_M) (v0 : Int64) (v2 : Int32) : Option (Int32 × mv_M) := jb_Tk_letterAt_0 N M v0 v2
set_option maxHeartbeats 4000000 in
set_option maxRecDepth 100000 in
theorem tb_Tk_letterAt_0 (l : Launch) (D : va_G) (E : Nat → ClassId) (B : Nat) (sa : (Nat → Nat) × Nat × (Nat → Int32)) (M0 M1 : mv_M) (r : Int32) (N : Nat) (M : mv_M) (v0 : Int64) (v2 : Int32) (hJ : jb_Tk_letterAt_0 N M v0 v2 = some (r, M1)) : mv_G (xg l D E B sa) kd_Tk_letterAt M0 M1 (some (.int r)) M 0 [(0, .long v0), (2, .int v2)] [] := by
  unfold jb_Tk_letterAt_0 at hJ
  refine mv_lload_n (pc := 0) (i := 0) de_Tk_letterAt_0 rfl 0 rfl ?_
  refine mv_bipush (pc := 1) (v := 8) de_Tk_letterAt_1 (by decide) ?_
  refine mv_iload_n (pc := 3) (i := 2) de_Tk_letterAt_3 rfl 1 rfl ?_
  refine mv_imul (pc := 4) de_Tk_letterAt_4 ?_
  refine mv_lushr (pc := 5) de_Tk_letterAt_5 ?_
  refine mv_ldc2 (pc := 6) de_Tk_letterAt_6 wt_4_4 ?_
  refine mv_land (pc := 9) de_Tk_letterAt_9 ?_
  refine mv_l2i (pc := 10) de_Tk_letterAt_10 ?_
  refine mv_bipush (pc := 11) (v := 97) de_Tk_letterAt_11 (by decide) ?_
  refine mv_isub (pc := 13) de_Tk_letterAt_13 ?_
  exact mv_iret (pc := 14) rfl de_Tk_letterAt_14 hJ
theorem cm_Tk_letterAt (l : Launch) (D : va_G) (E : Nat → ClassId) (B : Nat) (sa : (Nat → Nat) × Nat × (Nat → Int32)) (N : Nat) (M : mv_M) (v0 : Int64) (v2 : Int32) (r : Int32) (M1 : mv_M) (hJ : jf_Tk_letterAt N M v0 v2 = some (r, M1)) : mv_Met (xg l D E B sa) yn_Tk_letterAt cd_Tk_letterAt 3 (some .int) 0 0 [.long v0, .int v2] M (some (.int r)) M1 :=
  mv_enter (by decide) (Nat.le_of_ble_eq_true rfl) (mv_sub (lv := [(0, .long v0), (2, .int v2)]) [0, 1] rfl (tb_Tk_letterAt_0 l D E B sa M M1 r N M v0 v2 hJ))
/-! ===== PlainLearner$Tokens.addLetters(JI)I ===== -/
abbrev kd_Tk_addLetters : mv_Kd := (cd_Tk_addLetters, 6, "PlainLearner$Tokens", "addLetters", (some .int), 1, 22)
theorem de_Tk_addLetters_0 : decode cd_Tk_addLetters 0 = .ok (.iload_n 3, 1) := by decide +kernel
theorem de_Tk_addLetters_1 : decode cd_Tk_addLetters 1 = .ok (.iconst 1, 1) := by decide +kernel
theorem de_Tk_addLetters_2 : decode cd_Tk_addLetters 2 = .ok (.if_icmp .lt 9, 3) := by decide +kernel
theorem de_Tk_addLetters_5 : decode cd_Tk_addLetters 5 = .ok (.iload_n 3, 1) := by decide +kernel
theorem de_Tk_addLetters_6 : decode cd_Tk_addLetters 6 = .ok (.bipush 8, 2) := by decide +kernel
theorem de_Tk_addLetters_8 : decode cd_Tk_addLetters 8 = .ok (.if_icmp .le 5, 3) := by decide +kernel
theorem de_Tk_addLetters_11 : decode cd_Tk_addLetters 11 = .ok (.iconst (-1), 1) := by decide +kernel
theorem de_Tk_addLetters_12 : decode cd_Tk_addLetters 12 = .ok (.ireturn, 1) := by decide +kernel
theorem de_Tk_addLetters_13 : decode cd_Tk_addLetters 13 = .ok (.iconst 0, 1) := by decide +kernel
theorem de_Tk_addLetters_14 : decode cd_Tk_addLetters 14 = .ok (.istore 4, 2) := by decide +kernel
theorem de_Tk_addLetters_16 : decode cd_Tk_addLetters 16 = .ok (.iload 4, 2) := by decide +kernel
theorem de_Tk_addLetters_18 : decode cd_Tk_addLetters 18 = .ok (.iload_n 3, 1) := by decide +kernel
theorem de_Tk_addLetters_19 : decode cd_Tk_addLetters 19 = .ok (.if_icmp .ge 31, 3) := by decide +kernel
theorem de_Tk_addLetters_22 : decode cd_Tk_addLetters 22 = .ok (.lload_n 1, 1) := by decide +kernel
theorem de_Tk_addLetters_23 : decode cd_Tk_addLetters 23 = .ok (.iload 4, 2) := by decide +kernel
theorem de_Tk_addLetters_25 : decode cd_Tk_addLetters 25 = .ok (.invokestatic 27, 3) := by decide +kernel
theorem de_Tk_addLetters_28 : decode cd_Tk_addLetters 28 = .ok (.istore 5, 2) := by decide +kernel
theorem de_Tk_addLetters_30 : decode cd_Tk_addLetters 30 = .ok (.iload 5, 2) := by decide +kernel
theorem de_Tk_addLetters_32 : decode cd_Tk_addLetters 32 = .ok (.ifCond .lt 10, 3) := by decide +kernel
theorem de_Tk_addLetters_35 : decode cd_Tk_addLetters 35 = .ok (.iload 5, 2) := by decide +kernel
theorem de_Tk_addLetters_37 : decode cd_Tk_addLetters 37 = .ok (.bipush 26, 2) := by decide +kernel
theorem de_Tk_addLetters_39 : decode cd_Tk_addLetters 39 = .ok (.if_icmp .lt 5, 3) := by decide +kernel
theorem de_Tk_addLetters_42 : decode cd_Tk_addLetters 42 = .ok (.iconst (-1), 1) := by decide +kernel
theorem de_Tk_addLetters_43 : decode cd_Tk_addLetters 43 = .ok (.ireturn, 1) := by decide +kernel
theorem de_Tk_addLetters_44 : decode cd_Tk_addLetters 44 = .ok (.iinc 4 1, 3) := by decide +kernel
theorem de_Tk_addLetters_47 : decode cd_Tk_addLetters 47 = .ok (.goto (-31), 3) := by decide +kernel
theorem de_Tk_addLetters_50 : decode cd_Tk_addLetters 50 = .ok (.aload_n 0, 1) := by decide +kernel
theorem de_Tk_addLetters_51 : decode cd_Tk_addLetters 51 = .ok (.getfield 31, 3) := by decide +kernel
theorem de_Tk_addLetters_54 : decode cd_Tk_addLetters 54 = .ok (.iload_n 3, 1) := by decide +kernel
theorem de_Tk_addLetters_55 : decode cd_Tk_addLetters 55 = .ok (.iadd, 1) := by decide +kernel
theorem de_Tk_addLetters_56 : decode cd_Tk_addLetters 56 = .ok (.sipush 200, 3) := by decide +kernel
theorem de_Tk_addLetters_59 : decode cd_Tk_addLetters 59 = .ok (.if_icmp .le 6, 3) := by decide +kernel
theorem de_Tk_addLetters_62 : decode cd_Tk_addLetters 62 = .ok (.bipush (-3), 2) := by decide +kernel
theorem de_Tk_addLetters_64 : decode cd_Tk_addLetters 64 = .ok (.ireturn, 1) := by decide +kernel
theorem de_Tk_addLetters_65 : decode cd_Tk_addLetters 65 = .ok (.iconst 0, 1) := by decide +kernel
theorem de_Tk_addLetters_66 : decode cd_Tk_addLetters 66 = .ok (.istore 4, 2) := by decide +kernel
theorem de_Tk_addLetters_68 : decode cd_Tk_addLetters 68 = .ok (.iload 4, 2) := by decide +kernel
theorem de_Tk_addLetters_70 : decode cd_Tk_addLetters 70 = .ok (.iload_n 3, 1) := by decide +kernel
theorem de_Tk_addLetters_71 : decode cd_Tk_addLetters 71 = .ok (.if_icmp .ge 27, 3) := by decide +kernel
theorem de_Tk_addLetters_74 : decode cd_Tk_addLetters 74 = .ok (.aload_n 0, 1) := by decide +kernel
theorem de_Tk_addLetters_75 : decode cd_Tk_addLetters 75 = .ok (.getfield 11, 3) := by decide +kernel
theorem de_Tk_addLetters_78 : decode cd_Tk_addLetters 78 = .ok (.aload_n 0, 1) := by decide +kernel
theorem de_Tk_addLetters_79 : decode cd_Tk_addLetters 79 = .ok (.getfield 31, 3) := by decide +kernel
theorem de_Tk_addLetters_82 : decode cd_Tk_addLetters 82 = .ok (.iload 4, 2) := by decide +kernel
theorem de_Tk_addLetters_84 : decode cd_Tk_addLetters 84 = .ok (.iadd, 1) := by decide +kernel
theorem de_Tk_addLetters_85 : decode cd_Tk_addLetters 85 = .ok (.lload_n 1, 1) := by decide +kernel
theorem de_Tk_addLetters_86 : decode cd_Tk_addLetters 86 = .ok (.iload 4, 2) := by decide +kernel
theorem de_Tk_addLetters_88 : decode cd_Tk_addLetters 88 = .ok (.invokestatic 27, 3) := by decide +kernel
theorem de_Tk_addLetters_91 : decode cd_Tk_addLetters 91 = .ok (.iastore, 1) := by decide +kernel
theorem de_Tk_addLetters_92 : decode cd_Tk_addLetters 92 = .ok (.iinc 4 1, 3) := by decide +kernel
theorem de_Tk_addLetters_95 : decode cd_Tk_addLetters 95 = .ok (.goto (-27), 3) := by decide +kernel
theorem de_Tk_addLetters_98 : decode cd_Tk_addLetters 98 = .ok (.aload_n 0, 1) := by decide +kernel
theorem de_Tk_addLetters_99 : decode cd_Tk_addLetters 99 = .ok (.dup, 1) := by decide +kernel
theorem de_Tk_addLetters_100 : decode cd_Tk_addLetters 100 = .ok (.getfield 31, 3) := by decide +kernel
theorem de_Tk_addLetters_103 : decode cd_Tk_addLetters 103 = .ok (.iload_n 3, 1) := by decide +kernel
theorem de_Tk_addLetters_104 : decode cd_Tk_addLetters 104 = .ok (.iadd, 1) := by decide +kernel
theorem de_Tk_addLetters_105 : decode cd_Tk_addLetters 105 = .ok (.putfield 31, 3) := by decide +kernel
theorem de_Tk_addLetters_108 : decode cd_Tk_addLetters 108 = .ok (.aload_n 0, 1) := by decide +kernel
theorem de_Tk_addLetters_109 : decode cd_Tk_addLetters 109 = .ok (.getfield 31, 3) := by decide +kernel
theorem de_Tk_addLetters_112 : decode cd_Tk_addLetters 112 = .ok (.ireturn, 1) := by decide +kernel
def jb_Tk_addLetters_11 (N : Nat) (M : mv_M) : Option (Int32 × mv_M) :=
  some ((-1), M)
def jb_Tk_addLetters_68 (N : Nat) : Nat → mv_M → Nat → Int64 → Int32 → Int32 → Option (Int32 × mv_M)
  | 0, _, _, _, _, _ => none
  | n + 1, M, v0, v1, v3, v4 =>
    if v3 ≤ v4 then (Option.bind (mj_getI M v0 8 5) fun x100 =>
    Option.bind (mj_put M v0 8 5 (.int (x100 + v3))) fun Mm105 =>
    Option.bind (mj_getI Mm105 v0 8 5) fun x109 =>
    some (x109, Mm105)) else
    Option.bind (mj_getR M v0 8 0) fun x75 =>
    Option.bind (mj_getI M v0 8 5) fun x79 =>
    mj_call (jf_Tk_letterAt N M v1 v4) fun r88 Mm88 =>
    Option.bind x75 fun a91 =>
    Option.bind (mj_ist Mm88 a91 0 (x79 + v4) r88) fun Mm91 =>
    jb_Tk_addLetters_68 N n Mm91 v0 v1 v3 (v4 + 1)
def jb_Tk_addLetters_42 (N : Nat) (M : mv_M) : Option (Int32 × mv_M) :=
  some ((-1), M)
def jb_Tk_addLetters_16 (N : Nat) : Nat → mv_M → Nat → Int64 → Int32 → Int32 → Option (Int32 × mv_M)
  | 0, _, _, _, _, _ => none
  | n + 1, M, v0, v1, v3, v4 =>
    if v3 ≤ v4 then (Option.bind (mj_getI M v0 8 5) fun x51 =>
    if (x51 + v3) ≤ 200 then (jb_Tk_addLetters_68 N N M v0 v1 v3 0) else
    some ((-3), M)) else
    mj_call (jf_Tk_letterAt N M v1 v4) fun r25 Mm25 =>
    if r25 < 0 then (jb_Tk_addLetters_42 N Mm25) else
    if r25 < 26 then (jb_Tk_addLetters_16 N n Mm25 v0 v1 v3 (v4 + 1)) else
    jb_Tk_addLetters_42 N Mm25
def jb_Tk_addLetters_0 (N : Nat) (M : mv_M) (v0 : Nat) (v1 : Int64) (v3 : Int32) : Option (Int32 × mv_M) :=
  if v3 < 1 then (jb_Tk_addLetters_11 N M) else
  if v3 ≤ 8 then (jb_Tk_addLetters_16 N N M v0 v1 v3 0) else
  jb_Tk_addLetters_11 N M
def jf_Tk_addLetters (N : Nat) (M : mv_M) (v0 : Nat) (v1 : Int64) (v3 : Int32) : Option (Int32 × mv_M) := jb_Tk_addLetters_0 N M v0 v1 v3
set_option maxHeartbeats 4000000 in
set_option maxRecDepth 100000 in
theorem tb_Tk_addLetters_11 (l : Launch) (D : va_G) (E : Nat → ClassId) (B : Nat) (sa : (Nat → Nat) × Nat × (Nat → Int32)) (M0 M1 : mv_M) (r : Int32) (N : Nat) (M : mv_M) (hJ : jb_Tk_addLetters_11 N M = some (r, M1)) : mv_G (xg l D E B sa) kd_Tk_addLetters M0 M1 (some (.int r)) M 11 [] [] := by
  unfold jb_Tk_addLetters_11 at hJ
  refine mv_iconst (pc := 11) (v := (-1)) de_Tk_addLetters_11 (by decide) ?_
  exact mv_iret (pc := 12) rfl de_Tk_addLetters_12 hJ
set_option maxHeartbeats 4000000 in
set_option maxRecDepth 100000 in
theorem tb_Tk_addLetters_68 (l : Launch) (D : va_G) (E : Nat → ClassId) (B : Nat) (sa : (Nat → Nat) × Nat × (Nat → Int32)) (M0 M1 : mv_M) (r : Int32) (N : Nat) : ∀ (n : Nat) (M : mv_M) (v0 : Nat) (v1 : Int64) (v3 : Int32) (v4 : Int32) (hJ : jb_Tk_addLetters_68 N n M v0 v1 v3 v4 = some (r, M1)), mv_G (xg l D E B sa) kd_Tk_addLetters M0 M1 (some (.int r)) M 68 [(0, va_rf (some v0)), (1, .long v1), (3, .int v3), (4, .int v4)] [] := by
  intro n
  induction n with
  | zero => intro M v0 v1 v3 v4 hJ; cases hJ
  | succ n ih =>
    intro M v0 v1 v3 v4 hJ
    rw [jb_Tk_addLetters_68] at hJ
    refine mv_iload (pc := 68) de_Tk_addLetters_68 3 rfl ?_
    refine mv_iload_n (pc := 70) (i := 3) de_Tk_addLetters_70 rfl 2 rfl ?_
    refine mv_icmp_ge (pc := 71) (tgt := 98) de_Tk_addLetters_71 (by decide) hJ (fun hc71 h71 => ?_) (fun hc71 h71 => ?_)
    · refine mv_aload_n (pc := 98) (i := 0) de_Tk_addLetters_98 rfl 0 rfl ?_
      refine mv_dup (pc := 99) de_Tk_addLetters_99 rfl ?_
      refine mv_getI (pc := 100) (f := 5) (kc_8 l D E B sa) (Nat.le_of_ble_eq_true rfl) wt_1_127 de_Tk_addLetters_100 h71 (fun x100 e100 h100 => ?_)
      refine mv_iload_n (pc := 103) (i := 3) de_Tk_addLetters_103 rfl 2 rfl ?_
      refine mv_iadd (pc := 104) de_Tk_addLetters_104 ?_
      refine mv_put (pc := 105) (f := 5) (kc_8 l D E B sa) (Nat.le_of_ble_eq_true rfl) wt_1_127 rfl rfl rfl de_Tk_addLetters_105 h100 (fun Mm105 e105 h105 => ?_)
      refine mv_aload_n (pc := 108) (i := 0) de_Tk_addLetters_108 rfl 0 rfl ?_
      refine mv_getI (pc := 109) (f := 5) (kc_8 l D E B sa) (Nat.le_of_ble_eq_true rfl) wt_1_127 de_Tk_addLetters_109 h105 (fun x109 e109 h109 => ?_)
      exact mv_iret (pc := 112) rfl de_Tk_addLetters_112 h109
    · refine mv_aload_n (pc := 74) (i := 0) de_Tk_addLetters_74 rfl 0 rfl ?_
      refine mv_getR (pc := 75) (f := 0) (kc_8 l D E B sa) (Nat.le_of_ble_eq_true rfl) wt_1_122 de_Tk_addLetters_75 h71 (fun x75 e75 h75 => ?_)
      refine mv_aload_n (pc := 78) (i := 0) de_Tk_addLetters_78 rfl 0 rfl ?_
      refine mv_getI (pc := 79) (f := 5) (kc_8 l D E B sa) (Nat.le_of_ble_eq_true rfl) wt_1_127 de_Tk_addLetters_79 h75 (fun x79 e79 h79 => ?_)
      refine mv_iload (pc := 82) de_Tk_addLetters_82 3 rfl ?_
      refine mv_iadd (pc := 84) de_Tk_addLetters_84 ?_
      refine mv_lload_n (pc := 85) (i := 1) de_Tk_addLetters_85 rfl 1 rfl ?_
      refine mv_iload (pc := 86) de_Tk_addLetters_86 3 rfl ?_
      obtain ⟨r88, Mm88, hz88, h88⟩ := mj_callE h79
      refine mv_callS (pc := 88) (n := 2) (av := [.long v1, .int v4]) (rest := [.int (x79 + v4), va_rf x75]) de_Tk_addLetters_88 (cm_Tk_letterAt l D E B sa N M v1 v4 _ _ hz88) wt_4_1 wt_4_2 wt_1_7 wt_4_3 ⟨by decide, by decide, by decide +kernel⟩ rfl ⟨Nat.le_of_ble_eq_true rfl, Nat.le_of_ble_eq_true rfl⟩ (by simp [mv_cat, mv_cI, mv_cJ]) rfl ?_
      obtain ⟨a91, ha, h91a⟩ := mj_bindE h88
      subst ha
      refine mv_iast (pc := 91) (t := 0) rfl de_Tk_addLetters_91 h91a (fun Mm91 e91 h91 => ?_)
      refine mv_iinc (pc := 92) (v := (v4 + 1)) (lv' := [(4, .int (v4 + 1)), (0, va_rf (some v0)), (1, .long v1), (3, .int v3)]) de_Tk_addLetters_92 3 rfl rfl (Nat.le_of_ble_eq_true rfl) rfl ?_
      refine mv_goto (pc := 95) (tgt := 68) de_Tk_addLetters_95 (by decide) ?_
      exact mv_sub [1, 2, 3, 0] rfl (ih Mm91 v0 v1 v3 (v4 + 1) h91)
set_option maxHeartbeats 4000000 in
set_option maxRecDepth 100000 in
theorem tb_Tk_addLetters_42 (l : Launch) (D : va_G) (E : Nat → ClassId) (B : Nat) (sa : (Nat → Nat) × Nat × (Nat → Int32)) (M0 M1 : mv_M) (r : Int32) (N : Nat) (M : mv_M) (hJ : jb_Tk_addLetters_42 N M = some (r, M1)) : mv_G (xg l D E B sa) kd_Tk_addLetters M0 M1 (some (.int r)) M 42 [] [] := by
  unfold jb_Tk_addLetters_42 at hJ
  refine mv_iconst (pc := 42) (v := (-1)) de_Tk_addLetters_42 (by decide) ?_
  exact mv_iret (pc := 43) rfl de_Tk_addLetters_43 hJ
set_option maxHeartbeats 4000000 in
set_option maxRecDepth 100000 in
theorem tb_Tk_addLetters_16 (l : Launch) (D : va_G) (E : Nat → ClassId) (B : Nat) (sa : (Nat → Nat) × Nat × (Nat → Int32)) (M0 M1 : mv_M) (r : Int32) (N : Nat) : ∀ (n : Nat) (M : mv_M) (v0 : Nat) (v1 : Int64) (v3 : Int32) (v4 : Int32) (hJ : jb_Tk_addLetters_16 N n M v0 v1 v3 v4 = some (r, M1)), mv_G (xg l D E B sa) kd_Tk_addLetters M0 M1 (some (.int r)) M 16 [(0, va_rf (some v0)), (1, .long v1), (3, .int v3), (4, .int v4)] [] := by
  intro n
  induction n with
  | zero => intro M v0 v1 v3 v4 hJ; cases hJ
  | succ n ih =>
    intro M v0 v1 v3 v4 hJ
    rw [jb_Tk_addLetters_16] at hJ
    refine mv_iload (pc := 16) de_Tk_addLetters_16 3 rfl ?_
    refine mv_iload_n (pc := 18) (i := 3) de_Tk_addLetters_18 rfl 2 rfl ?_
    refine mv_icmp_ge (pc := 19) (tgt := 50) de_Tk_addLetters_19 (by decide) hJ (fun hc19 h19 => ?_) (fun hc19 h19 => ?_)
    · refine mv_aload_n (pc := 50) (i := 0) de_Tk_addLetters_50 rfl 0 rfl ?_
      refine mv_getI (pc := 51) (f := 5) (kc_8 l D E B sa) (Nat.le_of_ble_eq_true rfl) wt_1_127 de_Tk_addLetters_51 h19 (fun x51 e51 h51 => ?_)
      refine mv_iload_n (pc := 54) (i := 3) de_Tk_addLetters_54 rfl 2 rfl ?_
      refine mv_iadd (pc := 55) de_Tk_addLetters_55 ?_
      refine mv_sipush (pc := 56) (v := 200) de_Tk_addLetters_56 (by decide) ?_
      refine mv_icmp_le (pc := 59) (tgt := 65) de_Tk_addLetters_59 (by decide) h51 (fun hc59 h59 => ?_) (fun hc59 h59 => ?_)
      · refine mv_iconst (pc := 65) (v := 0) de_Tk_addLetters_65 (by decide) ?_
        refine mv_istore (pc := 66) (lv' := [(4, .int 0), (0, va_rf (some v0)), (1, .long v1), (3, .int v3)]) de_Tk_addLetters_66 (Nat.le_of_ble_eq_true rfl) rfl ?_
        exact mv_sub [1, 2, 3, 0] rfl (tb_Tk_addLetters_68 l D E B sa M0 M1 r N N M v0 v1 v3 0 h59)
      · refine mv_bipush (pc := 62) (v := (-3)) de_Tk_addLetters_62 (by decide) ?_
        exact mv_iret (pc := 64) rfl de_Tk_addLetters_64 h59
    · refine mv_lload_n (pc := 22) (i := 1) de_Tk_addLetters_22 rfl 1 rfl ?_
      refine mv_iload (pc := 23) de_Tk_addLetters_23 3 rfl ?_
      obtain ⟨r25, Mm25, hz25, h25⟩ := mj_callE h19
      refine mv_callS (pc := 25) (n := 2) (av := [.long v1, .int v4]) (rest := []) de_Tk_addLetters_25 (cm_Tk_letterAt l D E B sa N M v1 v4 _ _ hz25) wt_4_1 wt_4_2 wt_1_7 wt_4_3 ⟨by decide, by decide, by decide +kernel⟩ rfl ⟨Nat.le_of_ble_eq_true rfl, Nat.le_of_ble_eq_true rfl⟩ (Nat.le_of_ble_eq_true rfl) rfl ?_
      refine mv_istore (pc := 28) (lv' := [(5, .int r25), (0, va_rf (some v0)), (1, .long v1), (3, .int v3), (4, .int v4)]) de_Tk_addLetters_28 (Nat.le_of_ble_eq_true rfl) rfl ?_
      refine mv_iload (pc := 30) de_Tk_addLetters_30 0 rfl ?_
      refine mv_if_lt (pc := 32) (tgt := 42) de_Tk_addLetters_32 (by decide) h25 (fun hc32 h32 => ?_) (fun hc32 h32 => ?_)
      · exact mv_sub [] rfl (tb_Tk_addLetters_42 l D E B sa M0 M1 r N Mm25 h32)
      · refine mv_iload (pc := 35) de_Tk_addLetters_35 0 rfl ?_
        refine mv_bipush (pc := 37) (v := 26) de_Tk_addLetters_37 (by decide) ?_
        refine mv_icmp_lt (pc := 39) (tgt := 44) de_Tk_addLetters_39 (by decide) h32 (fun hc39 h39 => ?_) (fun hc39 h39 => ?_)
        · refine mv_iinc (pc := 44) (v := (v4 + 1)) (lv' := [(4, .int (v4 + 1)), (5, .int r25), (0, va_rf (some v0)), (1, .long v1), (3, .int v3)]) de_Tk_addLetters_44 4 rfl rfl (Nat.le_of_ble_eq_true rfl) rfl ?_
          refine mv_goto (pc := 47) (tgt := 16) de_Tk_addLetters_47 (by decide) ?_
          exact mv_sub [2, 3, 4, 0] rfl (ih Mm25 v0 v1 v3 (v4 + 1) h39)
        · exact mv_sub [] rfl (tb_Tk_addLetters_42 l D E B sa M0 M1 r N Mm25 h39)
set_option maxHeartbeats 4000000 in
set_option maxRecDepth 100000 in
theorem tb_Tk_addLetters_0 (l : Launch) (D : va_G) (E : Nat → ClassId) (B : Nat) (sa : (Nat → Nat) × Nat × (Nat → Int32)) (M0 M1 : mv_M) (r : Int32) (N : Nat) (M : mv_M) (v0 : Nat) (v1 : Int64) (v3 : Int32) (hJ : jb_Tk_addLetters_0 N M v0 v1 v3 = some (r, M1)) : mv_G (xg l D E B sa) kd_Tk_addLetters M0 M1 (some (.int r)) M 0 [(0, va_rf (some v0)), (1, .long v1), (3, .int v3)] [] := by
  unfold jb_Tk_addLetters_0 at hJ
  refine mv_iload_n (pc := 0) (i := 3) de_Tk_addLetters_0 rfl 2 rfl ?_
  refine mv_iconst (pc := 1) (v := 1) de_Tk_addLetters_1 (by decide) ?_
  refine mv_icmp_lt (pc := 2) (tgt := 11) de_Tk_addLetters_2 (by decide) hJ (fun hc2 h2 => ?_) (fun hc2 h2 => ?_)
  · exact mv_sub [] rfl (tb_Tk_addLetters_11 l D E B sa M0 M1 r N M h2)
  · refine mv_iload_n (pc := 5) (i := 3) de_Tk_addLetters_5 rfl 2 rfl ?_
    refine mv_bipush (pc := 6) (v := 8) de_Tk_addLetters_6 (by decide) ?_
    refine mv_icmp_le (pc := 8) (tgt := 13) de_Tk_addLetters_8 (by decide) h2 (fun hc8 h8 => ?_) (fun hc8 h8 => ?_)
    · refine mv_iconst (pc := 13) (v := 0) de_Tk_addLetters_13 (by decide) ?_
      refine mv_istore (pc := 14) (lv' := [(4, .int 0), (0, va_rf (some v0)), (1, .long v1), (3, .int v3)]) de_Tk_addLetters_14 (Nat.le_of_ble_eq_true rfl) rfl ?_
      exact mv_sub [1, 2, 3, 0] rfl (tb_Tk_addLetters_16 l D E B sa M0 M1 r N N M v0 v1 v3 0 h8)
    · exact mv_sub [] rfl (tb_Tk_addLetters_11 l D E B sa M0 M1 r N M h8)
theorem cm_Tk_addLetters (l : Launch) (D : va_G) (E : Nat → ClassId) (B : Nat) (sa : (Nat → Nat) × Nat × (Nat → Int32)) (N : Nat) (M : mv_M) (v0 : Nat) (v1 : Int64) (v3 : Int32) (r : Int32) (M1 : mv_M) (hJ : jf_Tk_addLetters N M v0 v1 v3 = some (r, M1)) : mv_Met (xg l D E B sa) yn_Tk_addLetters cd_Tk_addLetters 6 (some .int) 1 22 [va_rf (some v0), .long v1, .int v3] M (some (.int r)) M1 :=
  mv_enter (by decide) (Nat.le_of_ble_eq_true rfl) (mv_sub (lv := [(0, va_rf (some v0)), (1, .long v1), (3, .int v3)]) [0, 1, 2] rfl (tb_Tk_addLetters_0 l D E B sa M M1 r N M v0 v1 v3 hJ))
/-! ===== PlainLearner.feed(JI)I ===== -/
abbrev kd_PL_feed : mv_Kd := (cd_PL_feed, 4, "PlainLearner", "feed", (some .int), 2, 47)
theorem de_PL_feed_0 : decode cd_PL_feed 0 = .ok (.aload_n 0, 1) := by decide +kernel
theorem de_PL_feed_1 : decode cd_PL_feed 1 = .ok (.getfield 40, 3) := by decide +kernel
theorem de_PL_feed_4 : decode cd_PL_feed 4 = .ok (.lload_n 1, 1) := by decide +kernel
theorem de_PL_feed_5 : decode cd_PL_feed 5 = .ok (.iload_n 3, 1) := by decide +kernel
theorem de_PL_feed_6 : decode cd_PL_feed 6 = .ok (.invokevirtual 163, 3) := by decide +kernel
theorem de_PL_feed_9 : decode cd_PL_feed 9 = .ok (.ireturn, 1) := by decide +kernel
def jb_PL_feed_0 (N : Nat) (M : mv_M) (v0 : Nat) (v1 : Int64) (v3 : Int32) : Option (Int32 × mv_M) :=
  Option.bind (mj_getR M v0 0 4) fun x1 =>
  Option.bind x1 fun a6 =>
  mj_ob M a6 8 <|
  mj_call (jf_Tk_addLetters N M a6 v1 v3) fun r6 Mm6 =>
  some (r6, Mm6)
def jf_PL_feed (N : Nat) (M : mv_M) (v0 : Nat) (v1 : Int64) (v3 : Int32) : Option (Int32 × mv_M) := jb_PL_feed_0 N M v0 v1 v3
set_option maxHeartbeats 4000000 in
set_option maxRecDepth 100000 in
theorem tb_PL_feed_0 (l : Launch) (D : va_G) (E : Nat → ClassId) (B : Nat) (sa : (Nat → Nat) × Nat × (Nat → Int32)) (M0 M1 : mv_M) (r : Int32) (N : Nat) (M : mv_M) (v0 : Nat) (v1 : Int64) (v3 : Int32) (hJ : jb_PL_feed_0 N M v0 v1 v3 = some (r, M1)) : mv_G (xg l D E B sa) kd_PL_feed M0 M1 (some (.int r)) M 0 [(0, va_rf (some v0)), (1, .long v1), (3, .int v3)] [] := by
  unfold jb_PL_feed_0 at hJ
  refine mv_aload_n (pc := 0) (i := 0) de_PL_feed_0 rfl 0 rfl ?_
  refine mv_getR (pc := 1) (f := 4) (kc_0 l D E B sa) (Nat.le_of_ble_eq_true rfl) wt_1_150 de_PL_feed_1 hJ (fun x1 e1 h1 => ?_)
  refine mv_lload_n (pc := 4) (i := 1) de_PL_feed_4 rfl 1 rfl ?_
  refine mv_iload_n (pc := 5) (i := 3) de_PL_feed_5 rfl 2 rfl ?_
  obtain ⟨a6, ha, h6a⟩ := mj_bindE h1
  subst ha
  obtain ⟨hi6, h6o⟩ := mj_obE h6a
  obtain ⟨r6, Mm6, hz6, h6⟩ := mj_callE h6o
  refine mv_callV (pc := 6) (n := 2) (av := [.long v1, .int v3]) (rest := []) de_PL_feed_6 (kc_8 l D E B sa) hi6 (cm_Tk_addLetters l D E B sa N M a6 v1 v3 _ _ hz6) wt_3_237 wt_3_238 wt_3_239 wt_1_7 wt_4_0 ⟨by decide, by decide, by decide +kernel⟩ rfl ⟨Nat.le_of_ble_eq_true rfl, Nat.le_of_ble_eq_true rfl⟩ (Nat.le_of_ble_eq_true rfl) rfl ?_
  exact mv_iret (pc := 9) rfl de_PL_feed_9 h6
theorem cm_PL_feed (l : Launch) (D : va_G) (E : Nat → ClassId) (B : Nat) (sa : (Nat → Nat) × Nat × (Nat → Int32)) (N : Nat) (M : mv_M) (v0 : Nat) (v1 : Int64) (v3 : Int32) (r : Int32) (M1 : mv_M) (hJ : jf_PL_feed N M v0 v1 v3 = some (r, M1)) : mv_Met (xg l D E B sa) yn_PL_feed cd_PL_feed 4 (some .int) 2 47 [va_rf (some v0), .long v1, .int v3] M (some (.int r)) M1 :=
  mv_enter (by decide) (Nat.le_of_ble_eq_true rfl) (mv_sub (lv := [(0, va_rf (some v0)), (1, .long v1), (3, .int v3)]) [0, 1, 2] rfl (tb_PL_feed_0 l D E B sa M M1 r N M v0 v1 v3 hJ))
/-! ===== PlainLearner$Tokens.dropText()I ===== -/
abbrev kd_Tk_dropText : mv_Kd := (cd_Tk_dropText, 2, "PlainLearner$Tokens", "dropText", (some .int), 0, 0)
theorem de_Tk_dropText_0 : decode cd_Tk_dropText 0 = .ok (.aload_n 0, 1) := by decide +kernel
theorem de_Tk_dropText_1 : decode cd_Tk_dropText 1 = .ok (.getfield 31, 3) := by decide +kernel
theorem de_Tk_dropText_4 : decode cd_Tk_dropText 4 = .ok (.istore_n 1, 1) := by decide +kernel
theorem de_Tk_dropText_5 : decode cd_Tk_dropText 5 = .ok (.aload_n 0, 1) := by decide +kernel
theorem de_Tk_dropText_6 : decode cd_Tk_dropText 6 = .ok (.iconst 0, 1) := by decide +kernel
theorem de_Tk_dropText_7 : decode cd_Tk_dropText 7 = .ok (.putfield 31, 3) := by decide +kernel
theorem de_Tk_dropText_10 : decode cd_Tk_dropText 10 = .ok (.iload_n 1, 1) := by decide +kernel
theorem de_Tk_dropText_11 : decode cd_Tk_dropText 11 = .ok (.ireturn, 1) := by decide +kernel
def jb_Tk_dropText_0 (N : Nat) (M : mv_M) (v0 : Nat) : Option (Int32 × mv_M) :=
  Option.bind (mj_getI M v0 8 5) fun x1 =>
  Option.bind (mj_put M v0 8 5 (.int 0)) fun Mm7 =>
  some (x1, Mm7)
def jf_Tk_dropText (N : Nat) (M : mv_M) (v0 : Nat) : Option (Int32 × mv_M) := jb_Tk_dropText_0 N M v0
set_option maxHeartbeats 4000000 in
set_option maxRecDepth 100000 in
theorem tb_Tk_dropText_0 (l : Launch) (D : va_G) (E : Nat → ClassId) (B : Nat) (sa : (Nat → Nat) × Nat × (Nat → Int32)) (M0 M1 : mv_M) (r : Int32) (N : Nat) (M : mv_M) (v0 : Nat) (hJ : jb_Tk_dropText_0 N M v0 = some (r, M1)) : mv_G (xg l D E B sa) kd_Tk_dropText M0 M1 (some (.int r)) M 0 [(0, va_rf (some v0))] [] := by
  unfold jb_Tk_dropText_0 at hJ
  refine mv_aload_n (pc := 0) (i := 0) de_Tk_dropText_0 rfl 0 rfl ?_
  refine mv_getI (pc := 1) (f := 5) (kc_8 l D E B sa) (Nat.le_of_ble_eq_true rfl) wt_1_127 de_Tk_dropText_1 hJ (fun x1 e1 h1 => ?_)
  refine mv_istore_n (pc := 4) (i := 1) (lv' := [(1, .int x1), (0, va_rf (some v0))]) de_Tk_dropText_4 rfl (Nat.le_of_ble_eq_true rfl) rfl ?_
  refine mv_aload_n (pc := 5) (i := 0) de_Tk_dropText_5 rfl 1 rfl ?_
  refine mv_iconst (pc := 6) (v := 0) de_Tk_dropText_6 (by decide) ?_
  refine mv_put (pc := 7) (f := 5) (kc_8 l D E B sa) (Nat.le_of_ble_eq_true rfl) wt_1_127 rfl rfl rfl de_Tk_dropText_7 h1 (fun Mm7 e7 h7 => ?_)
  refine mv_iload_n (pc := 10) (i := 1) de_Tk_dropText_10 rfl 0 rfl ?_
  exact mv_iret (pc := 11) rfl de_Tk_dropText_11 h7
theorem cm_Tk_dropText (l : Launch) (D : va_G) (E : Nat → ClassId) (B : Nat) (sa : (Nat → Nat) × Nat × (Nat → Int32)) (N : Nat) (M : mv_M) (v0 : Nat) (r : Int32) (M1 : mv_M) (hJ : jf_Tk_dropText N M v0 = some (r, M1)) : mv_Met (xg l D E B sa) yn_Tk_dropText cd_Tk_dropText 2 (some .int) 0 0 [va_rf (some v0)] M (some (.int r)) M1 :=
  mv_enter (by decide) (Nat.le_of_ble_eq_true rfl) (mv_sub (lv := [(0, va_rf (some v0))]) [0] rfl (tb_Tk_dropText_0 l D E B sa M M1 r N M v0 hJ))
/-! ===== PlainLearner.empty()I ===== -/
abbrev kd_PL_empty : mv_Kd := (cd_PL_empty, 1, "PlainLearner", "empty", (some .int), 1, 21)
theorem de_PL_empty_0 : decode cd_PL_empty 0 = .ok (.aload_n 0, 1) := by decide +kernel
theorem de_PL_empty_1 : decode cd_PL_empty 1 = .ok (.getfield 40, 3) := by decide +kernel
theorem de_PL_empty_4 : decode cd_PL_empty 4 = .ok (.invokevirtual 167, 3) := by decide +kernel
theorem de_PL_empty_7 : decode cd_PL_empty 7 = .ok (.ireturn, 1) := by decide +kernel
def jb_PL_empty_0 (N : Nat) (M : mv_M) (v0 : Nat) : Option (Int32 × mv_M) :=
  Option.bind (mj_getR M v0 0 4) fun x1 =>
  Option.bind x1 fun a4 =>
  mj_ob M a4 8 <|
  mj_call (jf_Tk_dropText N M a4) fun r4 Mm4 =>
  some (r4, Mm4)
def jf_PL_empty (N : Nat) (M : mv_M) (v0 : Nat) : Option (Int32 × mv_M) := jb_PL_empty_0 N M v0
set_option maxHeartbeats 4000000 in
set_option maxRecDepth 100000 in
theorem tb_PL_empty_0 (l : Launch) (D : va_G) (E : Nat → ClassId) (B : Nat) (sa : (Nat → Nat) × Nat × (Nat → Int32)) (M0 M1 : mv_M) (r : Int32) (N : Nat) (M : mv_M) (v0 : Nat) (hJ : jb_PL_empty_0 N M v0 = some (r, M1)) : mv_G (xg l D E B sa) kd_PL_empty M0 M1 (some (.int r)) M 0 [(0, va_rf (some v0))] [] := by
  unfold jb_PL_empty_0 at hJ
  refine mv_aload_n (pc := 0) (i := 0) de_PL_empty_0 rfl 0 rfl ?_
  refine mv_getR (pc := 1) (f := 4) (kc_0 l D E B sa) (Nat.le_of_ble_eq_true rfl) wt_1_150 de_PL_empty_1 hJ (fun x1 e1 h1 => ?_)
  obtain ⟨a4, ha, h4a⟩ := mj_bindE h1
  subst ha
  obtain ⟨hi4, h4o⟩ := mj_obE h4a
  obtain ⟨r4, Mm4, hz4, h4⟩ := mj_callE h4o
  refine mv_callV (pc := 4) (n := 0) (av := []) (rest := []) de_PL_empty_4 (kc_8 l D E B sa) hi4 (cm_Tk_dropText l D E B sa N M a4 _ _ hz4) wt_4_9 wt_4_10 wt_4_11 wt_1_7 wt_4_12 ⟨by decide, by decide, by decide +kernel⟩ rfl ⟨Nat.le_of_ble_eq_true rfl, Nat.le_of_ble_eq_true rfl⟩ (Nat.le_of_ble_eq_true rfl) rfl ?_
  exact mv_iret (pc := 7) rfl de_PL_empty_7 h4
theorem cm_PL_empty (l : Launch) (D : va_G) (E : Nat → ClassId) (B : Nat) (sa : (Nat → Nat) × Nat × (Nat → Int32)) (N : Nat) (M : mv_M) (v0 : Nat) (r : Int32) (M1 : mv_M) (hJ : jf_PL_empty N M v0 = some (r, M1)) : mv_Met (xg l D E B sa) yn_PL_empty cd_PL_empty 1 (some .int) 1 21 [va_rf (some v0)] M (some (.int r)) M1 :=
  mv_enter (by decide) (Nat.le_of_ble_eq_true rfl) (mv_sub (lv := [(0, va_rf (some v0))]) [0] rfl (tb_PL_empty_0 l D E B sa M M1 r N M v0 hJ))
/-! ===== PlainLearner$Tokens.pairAt(I)I ===== -/
abbrev kd_Tk_pairAt : mv_Kd := (cd_Tk_pairAt, 2, "PlainLearner$Tokens", "pairAt", (some .int), 0, 0)
theorem de_Tk_pairAt_0 : decode cd_Tk_pairAt 0 = .ok (.aload_n 0, 1) := by decide +kernel
theorem de_Tk_pairAt_1 : decode cd_Tk_pairAt 1 = .ok (.getfield 11, 3) := by decide +kernel
theorem de_Tk_pairAt_4 : decode cd_Tk_pairAt 4 = .ok (.iload_n 1, 1) := by decide +kernel
theorem de_Tk_pairAt_5 : decode cd_Tk_pairAt 5 = .ok (.iaload, 1) := by decide +kernel
theorem de_Tk_pairAt_6 : decode cd_Tk_pairAt 6 = .ok (.bipush 86, 2) := by decide +kernel
theorem de_Tk_pairAt_8 : decode cd_Tk_pairAt 8 = .ok (.imul, 1) := by decide +kernel
theorem de_Tk_pairAt_9 : decode cd_Tk_pairAt 9 = .ok (.aload_n 0, 1) := by decide +kernel
theorem de_Tk_pairAt_10 : decode cd_Tk_pairAt 10 = .ok (.getfield 11, 3) := by decide +kernel
theorem de_Tk_pairAt_13 : decode cd_Tk_pairAt 13 = .ok (.iload_n 1, 1) := by decide +kernel
theorem de_Tk_pairAt_14 : decode cd_Tk_pairAt 14 = .ok (.iconst 1, 1) := by decide +kernel
theorem de_Tk_pairAt_15 : decode cd_Tk_pairAt 15 = .ok (.iadd, 1) := by decide +kernel
theorem de_Tk_pairAt_16 : decode cd_Tk_pairAt 16 = .ok (.iaload, 1) := by decide +kernel
theorem de_Tk_pairAt_17 : decode cd_Tk_pairAt 17 = .ok (.iadd, 1) := by decide +kernel
theorem de_Tk_pairAt_18 : decode cd_Tk_pairAt 18 = .ok (.ireturn, 1) := by decide +kernel
def jb_Tk_pairAt_0 (N : Nat) (M : mv_M) (v0 : Nat) (v1 : Int32) : Option (Int32 × mv_M) :=
  Option.bind (mj_getR M v0 8 0) fun x1 =>
  Option.bind x1 fun a5 =>
  Option.bind (mj_ild M a5 0 v1) fun x5 =>
  Option.bind (mj_getR M v0 8 0) fun x10 =>
  Option.bind x10 fun a16 =>
  Option.bind (mj_ild M a16 0 (v1 + 1)) fun x16 =>
  some (((x5 * 86) + x16), M)
def jf_Tk_pairAt (N : Nat) (M : mv_M) (v0 : Nat) (v1 : Int32) : Option (Int32 × mv_M) := jb_Tk_pairAt_0 N M v0 v1
set_option maxHeartbeats 4000000 in
set_option maxRecDepth 100000 in
theorem tb_Tk_pairAt_0 (l : Launch) (D : va_G) (E : Nat → ClassId) (B : Nat) (sa : (Nat → Nat) × Nat × (Nat → Int32)) (M0 M1 : mv_M) (r : Int32) (N : Nat) (M : mv_M) (v0 : Nat) (v1 : Int32) (hJ : jb_Tk_pairAt_0 N M v0 v1 = some (r, M1)) : mv_G (xg l D E B sa) kd_Tk_pairAt M0 M1 (some (.int r)) M 0 [(0, va_rf (some v0)), (1, .int v1)] [] := by
  unfold jb_Tk_pairAt_0 at hJ
  refine mv_aload_n (pc := 0) (i := 0) de_Tk_pairAt_0 rfl 0 rfl ?_
  refine mv_getR (pc := 1) (f := 0) (kc_8 l D E B sa) (Nat.le_of_ble_eq_true rfl) wt_1_122 de_Tk_pairAt_1 hJ (fun x1 e1 h1 => ?_)
  refine mv_iload_n (pc := 4) (i := 1) de_Tk_pairAt_4 rfl 1 rfl ?_
  obtain ⟨a5, ha, h5a⟩ := mj_bindE h1
  subst ha
  refine mv_iald (pc := 5) (t := 0) rfl de_Tk_pairAt_5 h5a (fun x5 e5 h5 => ?_)
  refine mv_bipush (pc := 6) (v := 86) de_Tk_pairAt_6 (by decide) ?_
  refine mv_imul (pc := 8) de_Tk_pairAt_8 ?_
  refine mv_aload_n (pc := 9) (i := 0) de_Tk_pairAt_9 rfl 0 rfl ?_
  refine mv_getR (pc := 10) (f := 0) (kc_8 l D E B sa) (Nat.le_of_ble_eq_true rfl) wt_1_122 de_Tk_pairAt_10 h5 (fun x10 e10 h10 => ?_)
  refine mv_iload_n (pc := 13) (i := 1) de_Tk_pairAt_13 rfl 1 rfl ?_
  refine mv_iconst (pc := 14) (v := 1) de_Tk_pairAt_14 (by decide) ?_
  refine mv_iadd (pc := 15) de_Tk_pairAt_15 ?_
  obtain ⟨a16, ha, h16a⟩ := mj_bindE h10
  subst ha
  refine mv_iald (pc := 16) (t := 0) rfl de_Tk_pairAt_16 h16a (fun x16 e16 h16 => ?_)
  refine mv_iadd (pc := 17) de_Tk_pairAt_17 ?_
  exact mv_iret (pc := 18) rfl de_Tk_pairAt_18 h16
theorem cm_Tk_pairAt (l : Launch) (D : va_G) (E : Nat → ClassId) (B : Nat) (sa : (Nat → Nat) × Nat × (Nat → Int32)) (N : Nat) (M : mv_M) (v0 : Nat) (v1 : Int32) (r : Int32) (M1 : mv_M) (hJ : jf_Tk_pairAt N M v0 v1 = some (r, M1)) : mv_Met (xg l D E B sa) yn_Tk_pairAt cd_Tk_pairAt 2 (some .int) 0 0 [va_rf (some v0), .int v1] M (some (.int r)) M1 :=
  mv_enter (by decide) (Nat.le_of_ble_eq_true rfl) (mv_sub (lv := [(0, va_rf (some v0)), (1, .int v1)]) [0, 1] rfl (tb_Tk_pairAt_0 l D E B sa M M1 r N M v0 v1 hJ))
/-! ===== PlainLearner$Tokens.countPairs()V ===== -/
abbrev kd_Tk_countPairs : mv_Kd := (cd_Tk_countPairs, 4, "PlainLearner$Tokens", "countPairs", none, 1, 21)
theorem de_Tk_countPairs_0 : decode cd_Tk_countPairs 0 = .ok (.iconst 0, 1) := by decide +kernel
theorem de_Tk_countPairs_1 : decode cd_Tk_countPairs 1 = .ok (.istore_n 1, 1) := by decide +kernel
theorem de_Tk_countPairs_2 : decode cd_Tk_countPairs 2 = .ok (.iload_n 1, 1) := by decide +kernel
theorem de_Tk_countPairs_3 : decode cd_Tk_countPairs 3 = .ok (.iconst 1, 1) := by decide +kernel
theorem de_Tk_countPairs_4 : decode cd_Tk_countPairs 4 = .ok (.iadd, 1) := by decide +kernel
theorem de_Tk_countPairs_5 : decode cd_Tk_countPairs 5 = .ok (.aload_n 0, 1) := by decide +kernel
theorem de_Tk_countPairs_6 : decode cd_Tk_countPairs 6 = .ok (.getfield 31, 3) := by decide +kernel
theorem de_Tk_countPairs_9 : decode cd_Tk_countPairs 9 = .ok (.if_icmp .ge 20, 3) := by decide +kernel
theorem de_Tk_countPairs_12 : decode cd_Tk_countPairs 12 = .ok (.aload_n 0, 1) := by decide +kernel
theorem de_Tk_countPairs_13 : decode cd_Tk_countPairs 13 = .ok (.getfield 24, 3) := by decide +kernel
theorem de_Tk_countPairs_16 : decode cd_Tk_countPairs 16 = .ok (.aload_n 0, 1) := by decide +kernel
theorem de_Tk_countPairs_17 : decode cd_Tk_countPairs 17 = .ok (.iload_n 1, 1) := by decide +kernel
theorem de_Tk_countPairs_18 : decode cd_Tk_countPairs 18 = .ok (.invokevirtual 55, 3) := by decide +kernel
theorem de_Tk_countPairs_21 : decode cd_Tk_countPairs 21 = .ok (.iconst 0, 1) := by decide +kernel
theorem de_Tk_countPairs_22 : decode cd_Tk_countPairs 22 = .ok (.iastore, 1) := by decide +kernel
theorem de_Tk_countPairs_23 : decode cd_Tk_countPairs 23 = .ok (.iinc 1 1, 3) := by decide +kernel
theorem de_Tk_countPairs_26 : decode cd_Tk_countPairs 26 = .ok (.goto (-24), 3) := by decide +kernel
theorem de_Tk_countPairs_29 : decode cd_Tk_countPairs 29 = .ok (.iconst 0, 1) := by decide +kernel
theorem de_Tk_countPairs_30 : decode cd_Tk_countPairs 30 = .ok (.istore_n 1, 1) := by decide +kernel
theorem de_Tk_countPairs_31 : decode cd_Tk_countPairs 31 = .ok (.iconst 0, 1) := by decide +kernel
theorem de_Tk_countPairs_32 : decode cd_Tk_countPairs 32 = .ok (.istore_n 2, 1) := by decide +kernel
theorem de_Tk_countPairs_33 : decode cd_Tk_countPairs 33 = .ok (.iload_n 2, 1) := by decide +kernel
theorem de_Tk_countPairs_34 : decode cd_Tk_countPairs 34 = .ok (.iconst 1, 1) := by decide +kernel
theorem de_Tk_countPairs_35 : decode cd_Tk_countPairs 35 = .ok (.iadd, 1) := by decide +kernel
theorem de_Tk_countPairs_36 : decode cd_Tk_countPairs 36 = .ok (.aload_n 0, 1) := by decide +kernel
theorem de_Tk_countPairs_37 : decode cd_Tk_countPairs 37 = .ok (.getfield 31, 3) := by decide +kernel
theorem de_Tk_countPairs_40 : decode cd_Tk_countPairs 40 = .ok (.if_icmp .ge 62, 3) := by decide +kernel
theorem de_Tk_countPairs_43 : decode cd_Tk_countPairs 43 = .ok (.iload_n 1, 1) := by decide +kernel
theorem de_Tk_countPairs_44 : decode cd_Tk_countPairs 44 = .ok (.ifCond .eq 22, 3) := by decide +kernel
theorem de_Tk_countPairs_47 : decode cd_Tk_countPairs 47 = .ok (.aload_n 0, 1) := by decide +kernel
theorem de_Tk_countPairs_48 : decode cd_Tk_countPairs 48 = .ok (.iload_n 2, 1) := by decide +kernel
theorem de_Tk_countPairs_49 : decode cd_Tk_countPairs 49 = .ok (.invokevirtual 55, 3) := by decide +kernel
theorem de_Tk_countPairs_52 : decode cd_Tk_countPairs 52 = .ok (.aload_n 0, 1) := by decide +kernel
theorem de_Tk_countPairs_53 : decode cd_Tk_countPairs 53 = .ok (.iload_n 2, 1) := by decide +kernel
theorem de_Tk_countPairs_54 : decode cd_Tk_countPairs 54 = .ok (.iconst 1, 1) := by decide +kernel
theorem de_Tk_countPairs_55 : decode cd_Tk_countPairs 55 = .ok (.isub, 1) := by decide +kernel
theorem de_Tk_countPairs_56 : decode cd_Tk_countPairs 56 = .ok (.invokevirtual 55, 3) := by decide +kernel
theorem de_Tk_countPairs_59 : decode cd_Tk_countPairs 59 = .ok (.if_icmp .ne 7, 3) := by decide +kernel
theorem de_Tk_countPairs_62 : decode cd_Tk_countPairs 62 = .ok (.iconst 1, 1) := by decide +kernel
theorem de_Tk_countPairs_63 : decode cd_Tk_countPairs 63 = .ok (.goto 4, 3) := by decide +kernel
theorem de_Tk_countPairs_66 : decode cd_Tk_countPairs 66 = .ok (.iconst 0, 1) := by decide +kernel
theorem de_Tk_countPairs_67 : decode cd_Tk_countPairs 67 = .ok (.istore_n 3, 1) := by decide +kernel
theorem de_Tk_countPairs_68 : decode cd_Tk_countPairs 68 = .ok (.iload_n 3, 1) := by decide +kernel
theorem de_Tk_countPairs_69 : decode cd_Tk_countPairs 69 = .ok (.ifCond .ne 17, 3) := by decide +kernel
theorem de_Tk_countPairs_72 : decode cd_Tk_countPairs 72 = .ok (.aload_n 0, 1) := by decide +kernel
theorem de_Tk_countPairs_73 : decode cd_Tk_countPairs 73 = .ok (.getfield 24, 3) := by decide +kernel
theorem de_Tk_countPairs_76 : decode cd_Tk_countPairs 76 = .ok (.aload_n 0, 1) := by decide +kernel
theorem de_Tk_countPairs_77 : decode cd_Tk_countPairs 77 = .ok (.iload_n 2, 1) := by decide +kernel
theorem de_Tk_countPairs_78 : decode cd_Tk_countPairs 78 = .ok (.invokevirtual 55, 3) := by decide +kernel
theorem de_Tk_countPairs_81 : decode cd_Tk_countPairs 81 = .ok (.dup2, 1) := by decide +kernel
theorem de_Tk_countPairs_82 : decode cd_Tk_countPairs 82 = .ok (.iaload, 1) := by decide +kernel
theorem de_Tk_countPairs_83 : decode cd_Tk_countPairs 83 = .ok (.iconst 1, 1) := by decide +kernel
theorem de_Tk_countPairs_84 : decode cd_Tk_countPairs 84 = .ok (.iadd, 1) := by decide +kernel
theorem de_Tk_countPairs_85 : decode cd_Tk_countPairs 85 = .ok (.iastore, 1) := by decide +kernel
theorem de_Tk_countPairs_86 : decode cd_Tk_countPairs 86 = .ok (.iload_n 3, 1) := by decide +kernel
theorem de_Tk_countPairs_87 : decode cd_Tk_countPairs 87 = .ok (.ifCond .ne 7, 3) := by decide +kernel
theorem de_Tk_countPairs_90 : decode cd_Tk_countPairs 90 = .ok (.iconst 1, 1) := by decide +kernel
theorem de_Tk_countPairs_91 : decode cd_Tk_countPairs 91 = .ok (.goto 4, 3) := by decide +kernel
theorem de_Tk_countPairs_94 : decode cd_Tk_countPairs 94 = .ok (.iconst 0, 1) := by decide +kernel
theorem de_Tk_countPairs_95 : decode cd_Tk_countPairs 95 = .ok (.istore_n 1, 1) := by decide +kernel
theorem de_Tk_countPairs_96 : decode cd_Tk_countPairs 96 = .ok (.iinc 2 1, 3) := by decide +kernel
theorem de_Tk_countPairs_99 : decode cd_Tk_countPairs 99 = .ok (.goto (-66), 3) := by decide +kernel
theorem de_Tk_countPairs_102 : decode cd_Tk_countPairs 102 = .ok (.return_, 1) := by decide +kernel
def jb_Tk_countPairs_95 (N : Nat) (k33 : mv_M → Nat → Int32 → Int32 → Option (Unit × mv_M)) (M : mv_M) (v0 : Nat) (v2 : Int32) (s0 : Int32) : Option (Unit × mv_M) :=
  k33 M v0 s0 (v2 + 1)
def jb_Tk_countPairs_86 (N : Nat) (k33 : mv_M → Nat → Int32 → Int32 → Option (Unit × mv_M)) (M : mv_M) (v0 : Nat) (v2 : Int32) (v3 : Int32) : Option (Unit × mv_M) :=
  if v3 = 0 then (jb_Tk_countPairs_95 N k33 M v0 v2 1) else
  jb_Tk_countPairs_95 N k33 M v0 v2 0
def jb_Tk_countPairs_67 (N : Nat) (k33 : mv_M → Nat → Int32 → Int32 → Option (Unit × mv_M)) (M : mv_M) (v0 : Nat) (v2 : Int32) (s0 : Int32) : Option (Unit × mv_M) :=
  if s0 = 0 then (Option.bind (mj_getR M v0 8 4) fun x73 =>
  mj_ob M v0 8 <|
  mj_call (jf_Tk_pairAt N M v0 v2) fun r78 Mm78 =>
  Option.bind x73 fun a82 =>
  Option.bind (mj_ild Mm78 a82 0 r78) fun x82 =>
  Option.bind (mj_ist Mm78 a82 0 r78 (x82 + 1)) fun Mm85 =>
  jb_Tk_countPairs_86 N k33 Mm85 v0 v2 s0) else
  jb_Tk_countPairs_86 N k33 M v0 v2 s0
def jb_Tk_countPairs_66 (N : Nat) (k33 : mv_M → Nat → Int32 → Int32 → Option (Unit × mv_M)) (M : mv_M) (v0 : Nat) (v2 : Int32) : Option (Unit × mv_M) :=
  jb_Tk_countPairs_67 N k33 M v0 v2 0
def jb_Tk_countPairs_33 (N : Nat) : Nat → mv_M → Nat → Int32 → Int32 → Option (Unit × mv_M)
  | 0, _, _, _, _ => none
  | n + 1, M, v0, v1, v2 =>
    Option.bind (mj_getI M v0 8 5) fun x37 =>
    if x37 ≤ (v2 + 1) then (some ((), M)) else
    if v1 = 0 then (jb_Tk_countPairs_66 N (jb_Tk_countPairs_33 N n) M v0 v2) else
    mj_ob M v0 8 <|
    mj_call (jf_Tk_pairAt N M v0 v2) fun r49 Mm49 =>
    mj_ob Mm49 v0 8 <|
    mj_call (jf_Tk_pairAt N Mm49 v0 (v2 - 1)) fun r56 Mm56 =>
    if r49 = r56 then (jb_Tk_countPairs_67 N (jb_Tk_countPairs_33 N n) Mm56 v0 v2 1) else
    jb_Tk_countPairs_66 N (jb_Tk_countPairs_33 N n) Mm56 v0 v2
def jb_Tk_countPairs_2 (N : Nat) : Nat → mv_M → Nat → Int32 → Option (Unit × mv_M)
  | 0, _, _, _ => none
  | n + 1, M, v0, v1 =>
    Option.bind (mj_getI M v0 8 5) fun x6 =>
    if x6 ≤ (v1 + 1) then (jb_Tk_countPairs_33 N N M v0 0 0) else
    Option.bind (mj_getR M v0 8 4) fun x13 =>
    mj_ob M v0 8 <|
    mj_call (jf_Tk_pairAt N M v0 v1) fun r18 Mm18 =>
    Option.bind x13 fun a22 =>
    Option.bind (mj_ist Mm18 a22 0 r18 0) fun Mm22 =>
    jb_Tk_countPairs_2 N n Mm22 v0 (v1 + 1)
def jb_Tk_countPairs_0 (N : Nat) (M : mv_M) (v0 : Nat) : Option (Unit × mv_M) :=
  jb_Tk_countPairs_2 N N M v0 0
def jf_Tk_countPairs (N : Nat) (M : mv_M) (v0 : Nat) : Option (Unit × mv_M) := jb_Tk_countPairs_0 N M v0
set_option maxHeartbeats 4000000 in
set_option maxRecDepth 100000 in
theorem tb_Tk_countPairs_95 (l : Launch) (D : va_G) (E : Nat → ClassId) (B : Nat) (sa : (Nat → Nat) × Nat × (Nat → Int32)) (M0 M1 : mv_M) (r : Unit) (N : Nat) (k33 : mv_M → Nat → Int32 → Int32 → Option (Unit × mv_M)) (hk33 : ∀ (M : mv_M) (v0 : Nat) (v1 : Int32) (v2 : Int32), k33 M v0 v1 v2 = some (r, M1) → mv_G (xg l D E B sa) kd_Tk_countPairs M0 M1 none M 33 [(0, va_rf (some v0)), (1, .int v1), (2, .int v2)] []) (M : mv_M) (v0 : Nat) (v2 : Int32) (s0 : Int32) (hJ : jb_Tk_countPairs_95 N k33 M v0 v2 s0 = some (r, M1)) : mv_G (xg l D E B sa) kd_Tk_countPairs M0 M1 none M 95 [(0, va_rf (some v0)), (2, .int v2)] [.int s0] := by
  unfold jb_Tk_countPairs_95 at hJ
  refine mv_istore_n (pc := 95) (i := 1) (lv' := [(1, .int s0), (0, va_rf (some v0)), (2, .int v2)]) de_Tk_countPairs_95 rfl (Nat.le_of_ble_eq_true rfl) rfl ?_
  refine mv_iinc (pc := 96) (v := (v2 + 1)) (lv' := [(2, .int (v2 + 1)), (1, .int s0), (0, va_rf (some v0))]) de_Tk_countPairs_96 2 rfl rfl (Nat.le_of_ble_eq_true rfl) rfl ?_
  refine mv_goto (pc := 99) (tgt := 33) de_Tk_countPairs_99 (by decide) ?_
  exact mv_sub [2, 1, 0] rfl (hk33 M v0 s0 (v2 + 1) hJ)
set_option maxHeartbeats 4000000 in
set_option maxRecDepth 100000 in
theorem tb_Tk_countPairs_86 (l : Launch) (D : va_G) (E : Nat → ClassId) (B : Nat) (sa : (Nat → Nat) × Nat × (Nat → Int32)) (M0 M1 : mv_M) (r : Unit) (N : Nat) (k33 : mv_M → Nat → Int32 → Int32 → Option (Unit × mv_M)) (hk33 : ∀ (M : mv_M) (v0 : Nat) (v1 : Int32) (v2 : Int32), k33 M v0 v1 v2 = some (r, M1) → mv_G (xg l D E B sa) kd_Tk_countPairs M0 M1 none M 33 [(0, va_rf (some v0)), (1, .int v1), (2, .int v2)] []) (M : mv_M) (v0 : Nat) (v2 : Int32) (v3 : Int32) (hJ : jb_Tk_countPairs_86 N k33 M v0 v2 v3 = some (r, M1)) : mv_G (xg l D E B sa) kd_Tk_countPairs M0 M1 none M 86 [(0, va_rf (some v0)), (2, .int v2), (3, .int v3)] [] := by
  unfold jb_Tk_countPairs_86 at hJ
  refine mv_iload_n (pc := 86) (i := 3) de_Tk_countPairs_86 rfl 2 rfl ?_
  refine mv_if_ne (pc := 87) (tgt := 94) de_Tk_countPairs_87 (by decide) hJ (fun hc87 h87 => ?_) (fun hc87 h87 => ?_)
  · refine mv_iconst (pc := 90) (v := 1) de_Tk_countPairs_90 (by decide) ?_
    refine mv_goto (pc := 91) (tgt := 95) de_Tk_countPairs_91 (by decide) ?_
    exact mv_sub [0, 1] rfl (tb_Tk_countPairs_95 l D E B sa M0 M1 r N k33 hk33 M v0 v2 1 h87)
  · refine mv_iconst (pc := 94) (v := 0) de_Tk_countPairs_94 (by decide) ?_
    exact mv_sub [0, 1] rfl (tb_Tk_countPairs_95 l D E B sa M0 M1 r N k33 hk33 M v0 v2 0 h87)
set_option maxHeartbeats 4000000 in
set_option maxRecDepth 100000 in
theorem tb_Tk_countPairs_67 (l : Launch) (D : va_G) (E : Nat → ClassId) (B : Nat) (sa : (Nat → Nat) × Nat × (Nat → Int32)) (M0 M1 : mv_M) (r : Unit) (N : Nat) (k33 : mv_M → Nat → Int32 → Int32 → Option (Unit × mv_M)) (hk33 : ∀ (M : mv_M) (v0 : Nat) (v1 : Int32) (v2 : Int32), k33 M v0 v1 v2 = some (r, M1) → mv_G (xg l D E B sa) kd_Tk_countPairs M0 M1 none M 33 [(0, va_rf (some v0)), (1, .int v1), (2, .int v2)] []) (M : mv_M) (v0 : Nat) (v2 : Int32) (s0 : Int32) (hJ : jb_Tk_countPairs_67 N k33 M v0 v2 s0 = some (r, M1)) : mv_G (xg l D E B sa) kd_Tk_countPairs M0 M1 none M 67 [(0, va_rf (some v0)), (2, .int v2)] [.int s0] := by
  unfold jb_Tk_countPairs_67 at hJ
  refine mv_istore_n (pc := 67) (i := 3) (lv' := [(3, .int s0), (0, va_rf (some v0)), (2, .int v2)]) de_Tk_countPairs_67 rfl (Nat.le_of_ble_eq_true rfl) rfl ?_
  refine mv_iload_n (pc := 68) (i := 3) de_Tk_countPairs_68 rfl 0 rfl ?_
  refine mv_if_ne (pc := 69) (tgt := 86) de_Tk_countPairs_69 (by decide) hJ (fun hc69 h69 => ?_) (fun hc69 h69 => ?_)
  · refine mv_aload_n (pc := 72) (i := 0) de_Tk_countPairs_72 rfl 1 rfl ?_
    refine mv_getR (pc := 73) (f := 4) (kc_8 l D E B sa) (Nat.le_of_ble_eq_true rfl) wt_1_126 de_Tk_countPairs_73 h69 (fun x73 e73 h73 => ?_)
    refine mv_aload_n (pc := 76) (i := 0) de_Tk_countPairs_76 rfl 1 rfl ?_
    refine mv_iload_n (pc := 77) (i := 2) de_Tk_countPairs_77 rfl 2 rfl ?_
    obtain ⟨hi78, h78o⟩ := mj_obE h73
    obtain ⟨r78, Mm78, hz78, h78⟩ := mj_callE h78o
    refine mv_callV (pc := 78) (n := 1) (av := [.int v2]) (rest := [va_rf x73]) de_Tk_countPairs_78 (kc_8 l D E B sa) hi78 (cm_Tk_pairAt l D E B sa N M v0 v2 _ _ hz78) wt_4_25 wt_4_27 wp_22 wt_1_7 wt_4_28 ⟨by decide, by decide, by decide +kernel⟩ rfl ⟨Nat.le_of_ble_eq_true rfl, Nat.le_of_ble_eq_true rfl⟩ (by simp [mv_cat, mv_cI, mv_cJ]) rfl ?_
    refine mv_dup2_11 (pc := 81) de_Tk_countPairs_81 rfl (mv_cat _) ?_
    obtain ⟨a82, ha, h82a⟩ := mj_bindE h78
    subst ha
    refine mv_iald (pc := 82) (t := 0) rfl de_Tk_countPairs_82 h82a (fun x82 e82 h82 => ?_)
    refine mv_iconst (pc := 83) (v := 1) de_Tk_countPairs_83 (by decide) ?_
    refine mv_iadd (pc := 84) de_Tk_countPairs_84 ?_
    refine mv_iast (pc := 85) (t := 0) rfl de_Tk_countPairs_85 h82 (fun Mm85 e85 h85 => ?_)
    exact mv_sub [1, 2, 0] rfl (tb_Tk_countPairs_86 l D E B sa M0 M1 r N k33 hk33 Mm85 v0 v2 s0 h85)
  · exact mv_sub [1, 2, 0] rfl (tb_Tk_countPairs_86 l D E B sa M0 M1 r N k33 hk33 M v0 v2 s0 h69)
set_option maxHeartbeats 4000000 in
set_option maxRecDepth 100000 in
theorem tb_Tk_countPairs_66 (l : Launch) (D : va_G) (E : Nat → ClassId) (B : Nat) (sa : (Nat → Nat) × Nat × (Nat → Int32)) (M0 M1 : mv_M) (r : Unit) (N : Nat) (k33 : mv_M → Nat → Int32 → Int32 → Option (Unit × mv_M)) (hk33 : ∀ (M : mv_M) (v0 : Nat) (v1 : Int32) (v2 : Int32), k33 M v0 v1 v2 = some (r, M1) → mv_G (xg l D E B sa) kd_Tk_countPairs M0 M1 none M 33 [(0, va_rf (some v0)), (1, .int v1), (2, .int v2)] []) (M : mv_M) (v0 : Nat) (v2 : Int32) (hJ : jb_Tk_countPairs_66 N k33 M v0 v2 = some (r, M1)) : mv_G (xg l D E B sa) kd_Tk_countPairs M0 M1 none M 66 [(0, va_rf (some v0)), (2, .int v2)] [] := by
  unfold jb_Tk_countPairs_66 at hJ
  refine mv_iconst (pc := 66) (v := 0) de_Tk_countPairs_66 (by decide) ?_
  exact mv_sub [0, 1] rfl (tb_Tk_countPairs_67 l D E B sa M0 M1 r N k33 hk33 M v0 v2 0 hJ)
set_option maxHeartbeats 4000000 in
set_option maxRecDepth 100000 in
theorem tb_Tk_countPairs_33 (l : Launch) (D : va_G) (E : Nat → ClassId) (B : Nat) (sa : (Nat → Nat) × Nat × (Nat → Int32)) (M0 M1 : mv_M) (r : Unit) (N : Nat) : ∀ (n : Nat) (M : mv_M) (v0 : Nat) (v1 : Int32) (v2 : Int32) (hJ : jb_Tk_countPairs_33 N n M v0 v1 v2 = some (r, M1)), mv_G (xg l D E B sa) kd_Tk_countPairs M0 M1 none M 33 [(0, va_rf (some v0)), (1, .int v1), (2, .int v2)] [] := by
  intro n
  induction n with
  | zero => intro M v0 v1 v2 hJ; cases hJ
  | succ n ih =>
    intro M v0 v1 v2 hJ
    rw [jb_Tk_countPairs_33] at hJ
    refine mv_iload_n (pc := 33) (i := 2) de_Tk_countPairs_33 rfl 2 rfl ?_
    refine mv_iconst (pc := 34) (v := 1) de_Tk_countPairs_34 (by decide) ?_
    refine mv_iadd (pc := 35) de_Tk_countPairs_35 ?_
    refine mv_aload_n (pc := 36) (i := 0) de_Tk_countPairs_36 rfl 0 rfl ?_
    refine mv_getI (pc := 37) (f := 5) (kc_8 l D E B sa) (Nat.le_of_ble_eq_true rfl) wt_1_127 de_Tk_countPairs_37 hJ (fun x37 e37 h37 => ?_)
    refine mv_icmp_ge (pc := 40) (tgt := 102) de_Tk_countPairs_40 (by decide) h37 (fun hc40 h40 => ?_) (fun hc40 h40 => ?_)
    · exact mv_vret (pc := 102) rfl de_Tk_countPairs_102 h40
    · refine mv_iload_n (pc := 43) (i := 1) de_Tk_countPairs_43 rfl 1 rfl ?_
      refine mv_if_eq (pc := 44) (tgt := 66) de_Tk_countPairs_44 (by decide) h40 (fun hc44 h44 => ?_) (fun hc44 h44 => ?_)
      · exact mv_sub [0, 2] rfl (tb_Tk_countPairs_66 l D E B sa M0 M1 r N (jb_Tk_countPairs_33 N n) ih M v0 v2 h44)
      · refine mv_aload_n (pc := 47) (i := 0) de_Tk_countPairs_47 rfl 0 rfl ?_
        refine mv_iload_n (pc := 48) (i := 2) de_Tk_countPairs_48 rfl 2 rfl ?_
        obtain ⟨hi49, h49o⟩ := mj_obE h44
        obtain ⟨r49, Mm49, hz49, h49⟩ := mj_callE h49o
        refine mv_callV (pc := 49) (n := 1) (av := [.int v2]) (rest := []) de_Tk_countPairs_49 (kc_8 l D E B sa) hi49 (cm_Tk_pairAt l D E B sa N M v0 v2 _ _ hz49) wt_4_25 wt_4_27 wp_22 wt_1_7 wt_4_28 ⟨by decide, by decide, by decide +kernel⟩ rfl ⟨Nat.le_of_ble_eq_true rfl, Nat.le_of_ble_eq_true rfl⟩ (Nat.le_of_ble_eq_true rfl) rfl ?_
        refine mv_aload_n (pc := 52) (i := 0) de_Tk_countPairs_52 rfl 0 rfl ?_
        refine mv_iload_n (pc := 53) (i := 2) de_Tk_countPairs_53 rfl 2 rfl ?_
        refine mv_iconst (pc := 54) (v := 1) de_Tk_countPairs_54 (by decide) ?_
        refine mv_isub (pc := 55) de_Tk_countPairs_55 ?_
        obtain ⟨hi56, h56o⟩ := mj_obE h49
        obtain ⟨r56, Mm56, hz56, h56⟩ := mj_callE h56o
        refine mv_callV (pc := 56) (n := 1) (av := [.int (v2 - 1)]) (rest := [.int r49]) de_Tk_countPairs_56 (kc_8 l D E B sa) hi56 (cm_Tk_pairAt l D E B sa N Mm49 v0 (v2 - 1) _ _ hz56) wt_4_25 wt_4_27 wp_22 wt_1_7 wt_4_28 ⟨by decide, by decide, by decide +kernel⟩ rfl ⟨Nat.le_of_ble_eq_true rfl, Nat.le_of_ble_eq_true rfl⟩ (Nat.le_of_ble_eq_true rfl) rfl ?_
        refine mv_icmp_ne (pc := 59) (tgt := 66) de_Tk_countPairs_59 (by decide) h56 (fun hc59 h59 => ?_) (fun hc59 h59 => ?_)
        · refine mv_iconst (pc := 62) (v := 1) de_Tk_countPairs_62 (by decide) ?_
          refine mv_goto (pc := 63) (tgt := 67) de_Tk_countPairs_63 (by decide) ?_
          exact mv_sub [0, 2] rfl (tb_Tk_countPairs_67 l D E B sa M0 M1 r N (jb_Tk_countPairs_33 N n) ih Mm56 v0 v2 1 h59)
        · exact mv_sub [0, 2] rfl (tb_Tk_countPairs_66 l D E B sa M0 M1 r N (jb_Tk_countPairs_33 N n) ih Mm56 v0 v2 h59)
set_option maxHeartbeats 4000000 in
set_option maxRecDepth 100000 in
theorem tb_Tk_countPairs_2 (l : Launch) (D : va_G) (E : Nat → ClassId) (B : Nat) (sa : (Nat → Nat) × Nat × (Nat → Int32)) (M0 M1 : mv_M) (r : Unit) (N : Nat) : ∀ (n : Nat) (M : mv_M) (v0 : Nat) (v1 : Int32) (hJ : jb_Tk_countPairs_2 N n M v0 v1 = some (r, M1)), mv_G (xg l D E B sa) kd_Tk_countPairs M0 M1 none M 2 [(0, va_rf (some v0)), (1, .int v1)] [] := by
  intro n
  induction n with
  | zero => intro M v0 v1 hJ; cases hJ
  | succ n ih =>
    intro M v0 v1 hJ
    rw [jb_Tk_countPairs_2] at hJ
    refine mv_iload_n (pc := 2) (i := 1) de_Tk_countPairs_2 rfl 1 rfl ?_
    refine mv_iconst (pc := 3) (v := 1) de_Tk_countPairs_3 (by decide) ?_
    refine mv_iadd (pc := 4) de_Tk_countPairs_4 ?_
    refine mv_aload_n (pc := 5) (i := 0) de_Tk_countPairs_5 rfl 0 rfl ?_
    refine mv_getI (pc := 6) (f := 5) (kc_8 l D E B sa) (Nat.le_of_ble_eq_true rfl) wt_1_127 de_Tk_countPairs_6 hJ (fun x6 e6 h6 => ?_)
    refine mv_icmp_ge (pc := 9) (tgt := 29) de_Tk_countPairs_9 (by decide) h6 (fun hc9 h9 => ?_) (fun hc9 h9 => ?_)
    · refine mv_iconst (pc := 29) (v := 0) de_Tk_countPairs_29 (by decide) ?_
      refine mv_istore_n (pc := 30) (i := 1) (lv' := [(1, .int 0), (0, va_rf (some v0))]) de_Tk_countPairs_30 rfl (Nat.le_of_ble_eq_true rfl) rfl ?_
      refine mv_iconst (pc := 31) (v := 0) de_Tk_countPairs_31 (by decide) ?_
      refine mv_istore_n (pc := 32) (i := 2) (lv' := [(2, .int 0), (1, .int 0), (0, va_rf (some v0))]) de_Tk_countPairs_32 rfl (Nat.le_of_ble_eq_true rfl) rfl ?_
      exact mv_sub [2, 1, 0] rfl (tb_Tk_countPairs_33 l D E B sa M0 M1 r N N M v0 0 0 h9)
    · refine mv_aload_n (pc := 12) (i := 0) de_Tk_countPairs_12 rfl 0 rfl ?_
      refine mv_getR (pc := 13) (f := 4) (kc_8 l D E B sa) (Nat.le_of_ble_eq_true rfl) wt_1_126 de_Tk_countPairs_13 h9 (fun x13 e13 h13 => ?_)
      refine mv_aload_n (pc := 16) (i := 0) de_Tk_countPairs_16 rfl 0 rfl ?_
      refine mv_iload_n (pc := 17) (i := 1) de_Tk_countPairs_17 rfl 1 rfl ?_
      obtain ⟨hi18, h18o⟩ := mj_obE h13
      obtain ⟨r18, Mm18, hz18, h18⟩ := mj_callE h18o
      refine mv_callV (pc := 18) (n := 1) (av := [.int v1]) (rest := [va_rf x13]) de_Tk_countPairs_18 (kc_8 l D E B sa) hi18 (cm_Tk_pairAt l D E B sa N M v0 v1 _ _ hz18) wt_4_25 wt_4_27 wp_22 wt_1_7 wt_4_28 ⟨by decide, by decide, by decide +kernel⟩ rfl ⟨Nat.le_of_ble_eq_true rfl, Nat.le_of_ble_eq_true rfl⟩ (by simp [mv_cat, mv_cI, mv_cJ]) rfl ?_
      refine mv_iconst (pc := 21) (v := 0) de_Tk_countPairs_21 (by decide) ?_
      obtain ⟨a22, ha, h22a⟩ := mj_bindE h18
      subst ha
      refine mv_iast (pc := 22) (t := 0) rfl de_Tk_countPairs_22 h22a (fun Mm22 e22 h22 => ?_)
      refine mv_iinc (pc := 23) (v := (v1 + 1)) (lv' := [(1, .int (v1 + 1)), (0, va_rf (some v0))]) de_Tk_countPairs_23 1 rfl rfl (Nat.le_of_ble_eq_true rfl) rfl ?_
      refine mv_goto (pc := 26) (tgt := 2) de_Tk_countPairs_26 (by decide) ?_
      exact mv_sub [1, 0] rfl (ih Mm22 v0 (v1 + 1) h22)
set_option maxHeartbeats 4000000 in
set_option maxRecDepth 100000 in
theorem tb_Tk_countPairs_0 (l : Launch) (D : va_G) (E : Nat → ClassId) (B : Nat) (sa : (Nat → Nat) × Nat × (Nat → Int32)) (M0 M1 : mv_M) (r : Unit) (N : Nat) (M : mv_M) (v0 : Nat) (hJ : jb_Tk_countPairs_0 N M v0 = some (r, M1)) : mv_G (xg l D E B sa) kd_Tk_countPairs M0 M1 none M 0 [(0, va_rf (some v0))] [] := by
  unfold jb_Tk_countPairs_0 at hJ
  refine mv_iconst (pc := 0) (v := 0) de_Tk_countPairs_0 (by decide) ?_
  refine mv_istore_n (pc := 1) (i := 1) (lv' := [(1, .int 0), (0, va_rf (some v0))]) de_Tk_countPairs_1 rfl (Nat.le_of_ble_eq_true rfl) rfl ?_
  exact mv_sub [1, 0] rfl (tb_Tk_countPairs_2 l D E B sa M0 M1 r N N M v0 0 hJ)
theorem cm_Tk_countPairs (l : Launch) (D : va_G) (E : Nat → ClassId) (B : Nat) (sa : (Nat → Nat) × Nat × (Nat → Int32)) (N : Nat) (M : mv_M) (v0 : Nat) (r : Unit) (M1 : mv_M) (hJ : jf_Tk_countPairs N M v0 = some (r, M1)) : mv_Met (xg l D E B sa) yn_Tk_countPairs cd_Tk_countPairs 4 none 1 21 [va_rf (some v0)] M none M1 :=
  mv_enter (by decide) (Nat.le_of_ble_eq_true rfl) (mv_sub (lv := [(0, va_rf (some v0))]) [0] rfl (tb_Tk_countPairs_0 l D E B sa M M1 r N M v0 hJ))
/-! ===== PlainLearner$Tokens.mostFrequentPair()I ===== -/
abbrev kd_Tk_mostFrequentPair : mv_Kd := (cd_Tk_mostFrequentPair, 5, "PlainLearner$Tokens", "mostFrequentPair", (some .int), 1, 21)
theorem de_Tk_mostFrequentPair_0 : decode cd_Tk_mostFrequentPair 0 = .ok (.iconst (-1), 1) := by decide +kernel
theorem de_Tk_mostFrequentPair_1 : decode cd_Tk_mostFrequentPair 1 = .ok (.istore_n 1, 1) := by decide +kernel
theorem de_Tk_mostFrequentPair_2 : decode cd_Tk_mostFrequentPair 2 = .ok (.iconst 1, 1) := by decide +kernel
theorem de_Tk_mostFrequentPair_3 : decode cd_Tk_mostFrequentPair 3 = .ok (.istore_n 2, 1) := by decide +kernel
theorem de_Tk_mostFrequentPair_4 : decode cd_Tk_mostFrequentPair 4 = .ok (.iconst 0, 1) := by decide +kernel
theorem de_Tk_mostFrequentPair_5 : decode cd_Tk_mostFrequentPair 5 = .ok (.istore_n 3, 1) := by decide +kernel
theorem de_Tk_mostFrequentPair_6 : decode cd_Tk_mostFrequentPair 6 = .ok (.iload_n 3, 1) := by decide +kernel
theorem de_Tk_mostFrequentPair_7 : decode cd_Tk_mostFrequentPair 7 = .ok (.iconst 1, 1) := by decide +kernel
theorem de_Tk_mostFrequentPair_8 : decode cd_Tk_mostFrequentPair 8 = .ok (.iadd, 1) := by decide +kernel
theorem de_Tk_mostFrequentPair_9 : decode cd_Tk_mostFrequentPair 9 = .ok (.aload_n 0, 1) := by decide +kernel
theorem de_Tk_mostFrequentPair_10 : decode cd_Tk_mostFrequentPair 10 = .ok (.getfield 31, 3) := by decide +kernel
theorem de_Tk_mostFrequentPair_13 : decode cd_Tk_mostFrequentPair 13 = .ok (.if_icmp .ge 55, 3) := by decide +kernel
theorem de_Tk_mostFrequentPair_16 : decode cd_Tk_mostFrequentPair 16 = .ok (.aload_n 0, 1) := by decide +kernel
theorem de_Tk_mostFrequentPair_17 : decode cd_Tk_mostFrequentPair 17 = .ok (.iload_n 3, 1) := by decide +kernel
theorem de_Tk_mostFrequentPair_18 : decode cd_Tk_mostFrequentPair 18 = .ok (.invokevirtual 55, 3) := by decide +kernel
theorem de_Tk_mostFrequentPair_21 : decode cd_Tk_mostFrequentPair 21 = .ok (.istore 4, 2) := by decide +kernel
theorem de_Tk_mostFrequentPair_23 : decode cd_Tk_mostFrequentPair 23 = .ok (.aload_n 0, 1) := by decide +kernel
theorem de_Tk_mostFrequentPair_24 : decode cd_Tk_mostFrequentPair 24 = .ok (.getfield 24, 3) := by decide +kernel
theorem de_Tk_mostFrequentPair_27 : decode cd_Tk_mostFrequentPair 27 = .ok (.iload 4, 2) := by decide +kernel
theorem de_Tk_mostFrequentPair_29 : decode cd_Tk_mostFrequentPair 29 = .ok (.iaload, 1) := by decide +kernel
theorem de_Tk_mostFrequentPair_30 : decode cd_Tk_mostFrequentPair 30 = .ok (.iload_n 2, 1) := by decide +kernel
theorem de_Tk_mostFrequentPair_31 : decode cd_Tk_mostFrequentPair 31 = .ok (.if_icmp .gt 20, 3) := by decide +kernel
theorem de_Tk_mostFrequentPair_34 : decode cd_Tk_mostFrequentPair 34 = .ok (.aload_n 0, 1) := by decide +kernel
theorem de_Tk_mostFrequentPair_35 : decode cd_Tk_mostFrequentPair 35 = .ok (.getfield 24, 3) := by decide +kernel
theorem de_Tk_mostFrequentPair_38 : decode cd_Tk_mostFrequentPair 38 = .ok (.iload 4, 2) := by decide +kernel
theorem de_Tk_mostFrequentPair_40 : decode cd_Tk_mostFrequentPair 40 = .ok (.iaload, 1) := by decide +kernel
theorem de_Tk_mostFrequentPair_41 : decode cd_Tk_mostFrequentPair 41 = .ok (.iload_n 2, 1) := by decide +kernel
theorem de_Tk_mostFrequentPair_42 : decode cd_Tk_mostFrequentPair 42 = .ok (.if_icmp .ne 20, 3) := by decide +kernel
theorem de_Tk_mostFrequentPair_45 : decode cd_Tk_mostFrequentPair 45 = .ok (.iload 4, 2) := by decide +kernel
theorem de_Tk_mostFrequentPair_47 : decode cd_Tk_mostFrequentPair 47 = .ok (.iload_n 1, 1) := by decide +kernel
theorem de_Tk_mostFrequentPair_48 : decode cd_Tk_mostFrequentPair 48 = .ok (.if_icmp .ge 14, 3) := by decide +kernel
theorem de_Tk_mostFrequentPair_51 : decode cd_Tk_mostFrequentPair 51 = .ok (.iload 4, 2) := by decide +kernel
theorem de_Tk_mostFrequentPair_53 : decode cd_Tk_mostFrequentPair 53 = .ok (.istore_n 1, 1) := by decide +kernel
theorem de_Tk_mostFrequentPair_54 : decode cd_Tk_mostFrequentPair 54 = .ok (.aload_n 0, 1) := by decide +kernel
theorem de_Tk_mostFrequentPair_55 : decode cd_Tk_mostFrequentPair 55 = .ok (.getfield 24, 3) := by decide +kernel
theorem de_Tk_mostFrequentPair_58 : decode cd_Tk_mostFrequentPair 58 = .ok (.iload 4, 2) := by decide +kernel
theorem de_Tk_mostFrequentPair_60 : decode cd_Tk_mostFrequentPair 60 = .ok (.iaload, 1) := by decide +kernel
theorem de_Tk_mostFrequentPair_61 : decode cd_Tk_mostFrequentPair 61 = .ok (.istore_n 2, 1) := by decide +kernel
theorem de_Tk_mostFrequentPair_62 : decode cd_Tk_mostFrequentPair 62 = .ok (.iinc 3 1, 3) := by decide +kernel
theorem de_Tk_mostFrequentPair_65 : decode cd_Tk_mostFrequentPair 65 = .ok (.goto (-59), 3) := by decide +kernel
theorem de_Tk_mostFrequentPair_68 : decode cd_Tk_mostFrequentPair 68 = .ok (.iload_n 1, 1) := by decide +kernel
theorem de_Tk_mostFrequentPair_69 : decode cd_Tk_mostFrequentPair 69 = .ok (.ireturn, 1) := by decide +kernel
def jb_Tk_mostFrequentPair_62 (N : Nat) (k6 : mv_M → Nat → Int32 → Int32 → Int32 → Option (Int32 × mv_M)) (M : mv_M) (v0 : Nat) (v1 : Int32) (v2 : Int32) (v3 : Int32) : Option (Int32 × mv_M) :=
  k6 M v0 v1 v2 (v3 + 1)
def jb_Tk_mostFrequentPair_51 (N : Nat) (k6 : mv_M → Nat → Int32 → Int32 → Int32 → Option (Int32 × mv_M)) (M : mv_M) (v0 : Nat) (v3 : Int32) (v4 : Int32) : Option (Int32 × mv_M) :=
  Option.bind (mj_getR M v0 8 4) fun x55 =>
  Option.bind x55 fun a60 =>
  Option.bind (mj_ild M a60 0 v4) fun x60 =>
  jb_Tk_mostFrequentPair_62 N k6 M v0 v4 x60 v3
def jb_Tk_mostFrequentPair_6 (N : Nat) : Nat → mv_M → Nat → Int32 → Int32 → Int32 → Option (Int32 × mv_M)
  | 0, _, _, _, _, _ => none
  | n + 1, M, v0, v1, v2, v3 =>
    Option.bind (mj_getI M v0 8 5) fun x10 =>
    if x10 ≤ (v3 + 1) then (some (v1, M)) else
    mj_ob M v0 8 <|
    mj_call (jf_Tk_pairAt N M v0 v3) fun r18 Mm18 =>
    Option.bind (mj_getR Mm18 v0 8 4) fun x24 =>
    Option.bind x24 fun a29 =>
    Option.bind (mj_ild Mm18 a29 0 r18) fun x29 =>
    if v2 < x29 then (jb_Tk_mostFrequentPair_51 N (jb_Tk_mostFrequentPair_6 N n) Mm18 v0 v3 r18) else
    Option.bind (mj_getR Mm18 v0 8 4) fun x35 =>
    Option.bind x35 fun a40 =>
    Option.bind (mj_ild Mm18 a40 0 r18) fun x40 =>
    if x40 = v2 then (if v1 ≤ r18 then (jb_Tk_mostFrequentPair_62 N (jb_Tk_mostFrequentPair_6 N n) Mm18 v0 v1 v2 v3) else
    jb_Tk_mostFrequentPair_51 N (jb_Tk_mostFrequentPair_6 N n) Mm18 v0 v3 r18) else
    jb_Tk_mostFrequentPair_62 N (jb_Tk_mostFrequentPair_6 N n) Mm18 v0 v1 v2 v3
def jb_Tk_mostFrequentPair_0 (N : Nat) (M : mv_M) (v0 : Nat) : Option (Int32 × mv_M) :=
  jb_Tk_mostFrequentPair_6 N N M v0 (-1) 1 0
def jf_Tk_mostFrequentPair (N : Nat) (M : mv_M) (v0 : Nat) : Option (Int32 × mv_M) := jb_Tk_mostFrequentPair_0 N M v0
set_option maxHeartbeats 4000000 in
set_option maxRecDepth 100000 in
theorem tb_Tk_mostFrequentPair_62 (l : Launch) (D : va_G) (E : Nat → ClassId) (B : Nat) (sa : (Nat → Nat) × Nat × (Nat → Int32)) (M0 M1 : mv_M) (r : Int32) (N : Nat) (k6 : mv_M → Nat → Int32 → Int32 → Int32 → Option (Int32 × mv_M)) (hk6 : ∀ (M : mv_M) (v0 : Nat) (v1 : Int32) (v2 : Int32) (v3 : Int32), k6 M v0 v1 v2 v3 = some (r, M1) → mv_G (xg l D E B sa) kd_Tk_mostFrequentPair M0 M1 (some (.int r)) M 6 [(0, va_rf (some v0)), (1, .int v1), (2, .int v2), (3, .int v3)] []) (M : mv_M) (v0 : Nat) (v1 : Int32) (v2 : Int32) (v3 : Int32) (hJ : jb_Tk_mostFrequentPair_62 N k6 M v0 v1 v2 v3 = some (r, M1)) : mv_G (xg l D E B sa) kd_Tk_mostFrequentPair M0 M1 (some (.int r)) M 62 [(0, va_rf (some v0)), (1, .int v1), (2, .int v2), (3, .int v3)] [] := by
  unfold jb_Tk_mostFrequentPair_62 at hJ
  refine mv_iinc (pc := 62) (v := (v3 + 1)) (lv' := [(3, .int (v3 + 1)), (0, va_rf (some v0)), (1, .int v1), (2, .int v2)]) de_Tk_mostFrequentPair_62 3 rfl rfl (Nat.le_of_ble_eq_true rfl) rfl ?_
  refine mv_goto (pc := 65) (tgt := 6) de_Tk_mostFrequentPair_65 (by decide) ?_
  exact mv_sub [1, 2, 3, 0] rfl (hk6 M v0 v1 v2 (v3 + 1) hJ)
set_option maxHeartbeats 4000000 in
set_option maxRecDepth 100000 in
theorem tb_Tk_mostFrequentPair_51 (l : Launch) (D : va_G) (E : Nat → ClassId) (B : Nat) (sa : (Nat → Nat) × Nat × (Nat → Int32)) (M0 M1 : mv_M) (r : Int32) (N : Nat) (k6 : mv_M → Nat → Int32 → Int32 → Int32 → Option (Int32 × mv_M)) (hk6 : ∀ (M : mv_M) (v0 : Nat) (v1 : Int32) (v2 : Int32) (v3 : Int32), k6 M v0 v1 v2 v3 = some (r, M1) → mv_G (xg l D E B sa) kd_Tk_mostFrequentPair M0 M1 (some (.int r)) M 6 [(0, va_rf (some v0)), (1, .int v1), (2, .int v2), (3, .int v3)] []) (M : mv_M) (v0 : Nat) (v3 : Int32) (v4 : Int32) (hJ : jb_Tk_mostFrequentPair_51 N k6 M v0 v3 v4 = some (r, M1)) : mv_G (xg l D E B sa) kd_Tk_mostFrequentPair M0 M1 (some (.int r)) M 51 [(0, va_rf (some v0)), (3, .int v3), (4, .int v4)] [] := by
  unfold jb_Tk_mostFrequentPair_51 at hJ
  refine mv_iload (pc := 51) de_Tk_mostFrequentPair_51 2 rfl ?_
  refine mv_istore_n (pc := 53) (i := 1) (lv' := [(1, .int v4), (0, va_rf (some v0)), (3, .int v3), (4, .int v4)]) de_Tk_mostFrequentPair_53 rfl (Nat.le_of_ble_eq_true rfl) rfl ?_
  refine mv_aload_n (pc := 54) (i := 0) de_Tk_mostFrequentPair_54 rfl 1 rfl ?_
  refine mv_getR (pc := 55) (f := 4) (kc_8 l D E B sa) (Nat.le_of_ble_eq_true rfl) wt_1_126 de_Tk_mostFrequentPair_55 hJ (fun x55 e55 h55 => ?_)
  refine mv_iload (pc := 58) de_Tk_mostFrequentPair_58 3 rfl ?_
  obtain ⟨a60, ha, h60a⟩ := mj_bindE h55
  subst ha
  refine mv_iald (pc := 60) (t := 0) rfl de_Tk_mostFrequentPair_60 h60a (fun x60 e60 h60 => ?_)
  refine mv_istore_n (pc := 61) (i := 2) (lv' := [(2, .int x60), (1, .int v4), (0, va_rf (some v0)), (3, .int v3), (4, .int v4)]) de_Tk_mostFrequentPair_61 rfl (Nat.le_of_ble_eq_true rfl) rfl ?_
  exact mv_sub [2, 1, 0, 3] rfl (tb_Tk_mostFrequentPair_62 l D E B sa M0 M1 r N k6 hk6 M v0 v4 x60 v3 h60)
set_option maxHeartbeats 4000000 in
set_option maxRecDepth 100000 in
theorem tb_Tk_mostFrequentPair_6 (l : Launch) (D : va_G) (E : Nat → ClassId) (B : Nat) (sa : (Nat → Nat) × Nat × (Nat → Int32)) (M0 M1 : mv_M) (r : Int32) (N : Nat) : ∀ (n : Nat) (M : mv_M) (v0 : Nat) (v1 : Int32) (v2 : Int32) (v3 : Int32) (hJ : jb_Tk_mostFrequentPair_6 N n M v0 v1 v2 v3 = some (r, M1)), mv_G (xg l D E B sa) kd_Tk_mostFrequentPair M0 M1 (some (.int r)) M 6 [(0, va_rf (some v0)), (1, .int v1), (2, .int v2), (3, .int v3)] [] := by
  intro n
  induction n with
  | zero => intro M v0 v1 v2 v3 hJ; cases hJ
  | succ n ih =>
    intro M v0 v1 v2 v3 hJ
    rw [jb_Tk_mostFrequentPair_6] at hJ
    refine mv_iload_n (pc := 6) (i := 3) de_Tk_mostFrequentPair_6 rfl 3 rfl ?_
    refine mv_iconst (pc := 7) (v := 1) de_Tk_mostFrequentPair_7 (by decide) ?_
    refine mv_iadd (pc := 8) de_Tk_mostFrequentPair_8 ?_
    refine mv_aload_n (pc := 9) (i := 0) de_Tk_mostFrequentPair_9 rfl 0 rfl ?_
    refine mv_getI (pc := 10) (f := 5) (kc_8 l D E B sa) (Nat.le_of_ble_eq_true rfl) wt_1_127 de_Tk_mostFrequentPair_10 hJ (fun x10 e10 h10 => ?_)
    refine mv_icmp_ge (pc := 13) (tgt := 68) de_Tk_mostFrequentPair_13 (by decide) h10 (fun hc13 h13 => ?_) (fun hc13 h13 => ?_)
    · refine mv_iload_n (pc := 68) (i := 1) de_Tk_mostFrequentPair_68 rfl 1 rfl ?_
      exact mv_iret (pc := 69) rfl de_Tk_mostFrequentPair_69 h13
    · refine mv_aload_n (pc := 16) (i := 0) de_Tk_mostFrequentPair_16 rfl 0 rfl ?_
      refine mv_iload_n (pc := 17) (i := 3) de_Tk_mostFrequentPair_17 rfl 3 rfl ?_
      obtain ⟨hi18, h18o⟩ := mj_obE h13
      obtain ⟨r18, Mm18, hz18, h18⟩ := mj_callE h18o
      refine mv_callV (pc := 18) (n := 1) (av := [.int v3]) (rest := []) de_Tk_mostFrequentPair_18 (kc_8 l D E B sa) hi18 (cm_Tk_pairAt l D E B sa N M v0 v3 _ _ hz18) wt_4_25 wt_4_27 wp_22 wt_1_7 wt_4_28 ⟨by decide, by decide, by decide +kernel⟩ rfl ⟨Nat.le_of_ble_eq_true rfl, Nat.le_of_ble_eq_true rfl⟩ (Nat.le_of_ble_eq_true rfl) rfl ?_
      refine mv_istore (pc := 21) (lv' := [(4, .int r18), (0, va_rf (some v0)), (1, .int v1), (2, .int v2), (3, .int v3)]) de_Tk_mostFrequentPair_21 (Nat.le_of_ble_eq_true rfl) rfl ?_
      refine mv_aload_n (pc := 23) (i := 0) de_Tk_mostFrequentPair_23 rfl 1 rfl ?_
      refine mv_getR (pc := 24) (f := 4) (kc_8 l D E B sa) (Nat.le_of_ble_eq_true rfl) wt_1_126 de_Tk_mostFrequentPair_24 h18 (fun x24 e24 h24 => ?_)
      refine mv_iload (pc := 27) de_Tk_mostFrequentPair_27 0 rfl ?_
      obtain ⟨a29, ha, h29a⟩ := mj_bindE h24
      subst ha
      refine mv_iald (pc := 29) (t := 0) rfl de_Tk_mostFrequentPair_29 h29a (fun x29 e29 h29 => ?_)
      refine mv_iload_n (pc := 30) (i := 2) de_Tk_mostFrequentPair_30 rfl 3 rfl ?_
      refine mv_icmp_gt (pc := 31) (tgt := 51) de_Tk_mostFrequentPair_31 (by decide) h29 (fun hc31 h31 => ?_) (fun hc31 h31 => ?_)
      · exact mv_sub [1, 4, 0] rfl (tb_Tk_mostFrequentPair_51 l D E B sa M0 M1 r N (jb_Tk_mostFrequentPair_6 N n) ih Mm18 v0 v3 r18 h31)
      · refine mv_aload_n (pc := 34) (i := 0) de_Tk_mostFrequentPair_34 rfl 1 rfl ?_
        refine mv_getR (pc := 35) (f := 4) (kc_8 l D E B sa) (Nat.le_of_ble_eq_true rfl) wt_1_126 de_Tk_mostFrequentPair_35 h31 (fun x35 e35 h35 => ?_)
        refine mv_iload (pc := 38) de_Tk_mostFrequentPair_38 0 rfl ?_
        obtain ⟨a40, ha, h40a⟩ := mj_bindE h35
        subst ha
        refine mv_iald (pc := 40) (t := 0) rfl de_Tk_mostFrequentPair_40 h40a (fun x40 e40 h40 => ?_)
        refine mv_iload_n (pc := 41) (i := 2) de_Tk_mostFrequentPair_41 rfl 3 rfl ?_
        refine mv_icmp_ne (pc := 42) (tgt := 62) de_Tk_mostFrequentPair_42 (by decide) h40 (fun hc42 h42 => ?_) (fun hc42 h42 => ?_)
        · refine mv_iload (pc := 45) de_Tk_mostFrequentPair_45 0 rfl ?_
          refine mv_iload_n (pc := 47) (i := 1) de_Tk_mostFrequentPair_47 rfl 2 rfl ?_
          refine mv_icmp_ge (pc := 48) (tgt := 62) de_Tk_mostFrequentPair_48 (by decide) h42 (fun hc48 h48 => ?_) (fun hc48 h48 => ?_)
          · exact mv_sub [1, 2, 3, 4] rfl (tb_Tk_mostFrequentPair_62 l D E B sa M0 M1 r N (jb_Tk_mostFrequentPair_6 N n) ih Mm18 v0 v1 v2 v3 h48)
          · exact mv_sub [1, 4, 0] rfl (tb_Tk_mostFrequentPair_51 l D E B sa M0 M1 r N (jb_Tk_mostFrequentPair_6 N n) ih Mm18 v0 v3 r18 h48)
        · exact mv_sub [1, 2, 3, 4] rfl (tb_Tk_mostFrequentPair_62 l D E B sa M0 M1 r N (jb_Tk_mostFrequentPair_6 N n) ih Mm18 v0 v1 v2 v3 h42)
set_option maxHeartbeats 4000000 in
set_option maxRecDepth 100000 in
theorem tb_Tk_mostFrequentPair_0 (l : Launch) (D : va_G) (E : Nat → ClassId) (B : Nat) (sa : (Nat → Nat) × Nat × (Nat → Int32)) (M0 M1 : mv_M) (r : Int32) (N : Nat) (M : mv_M) (v0 : Nat) (hJ : jb_Tk_mostFrequentPair_0 N M v0 = some (r, M1)) : mv_G (xg l D E B sa) kd_Tk_mostFrequentPair M0 M1 (some (.int r)) M 0 [(0, va_rf (some v0))] [] := by
  unfold jb_Tk_mostFrequentPair_0 at hJ
  refine mv_iconst (pc := 0) (v := (-1)) de_Tk_mostFrequentPair_0 (by decide) ?_
  refine mv_istore_n (pc := 1) (i := 1) (lv' := [(1, .int (-1)), (0, va_rf (some v0))]) de_Tk_mostFrequentPair_1 rfl (Nat.le_of_ble_eq_true rfl) rfl ?_
  refine mv_iconst (pc := 2) (v := 1) de_Tk_mostFrequentPair_2 (by decide) ?_
  refine mv_istore_n (pc := 3) (i := 2) (lv' := [(2, .int 1), (1, .int (-1)), (0, va_rf (some v0))]) de_Tk_mostFrequentPair_3 rfl (Nat.le_of_ble_eq_true rfl) rfl ?_
  refine mv_iconst (pc := 4) (v := 0) de_Tk_mostFrequentPair_4 (by decide) ?_
  refine mv_istore_n (pc := 5) (i := 3) (lv' := [(3, .int 0), (2, .int 1), (1, .int (-1)), (0, va_rf (some v0))]) de_Tk_mostFrequentPair_5 rfl (Nat.le_of_ble_eq_true rfl) rfl ?_
  exact mv_sub [3, 2, 1, 0] rfl (tb_Tk_mostFrequentPair_6 l D E B sa M0 M1 r N N M v0 (-1) 1 0 hJ)
theorem cm_Tk_mostFrequentPair (l : Launch) (D : va_G) (E : Nat → ClassId) (B : Nat) (sa : (Nat → Nat) × Nat × (Nat → Int32)) (N : Nat) (M : mv_M) (v0 : Nat) (r : Int32) (M1 : mv_M) (hJ : jf_Tk_mostFrequentPair N M v0 = some (r, M1)) : mv_Met (xg l D E B sa) yn_Tk_mostFrequentPair cd_Tk_mostFrequentPair 5 (some .int) 1 21 [va_rf (some v0)] M (some (.int r)) M1 :=
  mv_enter (by decide) (Nat.le_of_ble_eq_true rfl) (mv_sub (lv := [(0, va_rf (some v0))]) [0] rfl (tb_Tk_mostFrequentPair_0 l D E B sa M M1 r N M v0 hJ))
/-! ===== PlainLearner$Tokens.lettersOf(I)I ===== -/
abbrev kd_Tk_lettersOf : mv_Kd := (cd_Tk_lettersOf, 2, "PlainLearner$Tokens", "lettersOf", (some .int), 0, 0)
theorem de_Tk_lettersOf_0 : decode cd_Tk_lettersOf 0 = .ok (.iload_n 1, 1) := by decide +kernel
theorem de_Tk_lettersOf_1 : decode cd_Tk_lettersOf 1 = .ok (.bipush 26, 2) := by decide +kernel
theorem de_Tk_lettersOf_3 : decode cd_Tk_lettersOf 3 = .ok (.if_icmp .ge 7, 3) := by decide +kernel
theorem de_Tk_lettersOf_6 : decode cd_Tk_lettersOf 6 = .ok (.iconst 1, 1) := by decide +kernel
theorem de_Tk_lettersOf_7 : decode cd_Tk_lettersOf 7 = .ok (.goto 12, 3) := by decide +kernel
theorem de_Tk_lettersOf_10 : decode cd_Tk_lettersOf 10 = .ok (.aload_n 0, 1) := by decide +kernel
theorem de_Tk_lettersOf_11 : decode cd_Tk_lettersOf 11 = .ok (.getfield 21, 3) := by decide +kernel
theorem de_Tk_lettersOf_14 : decode cd_Tk_lettersOf 14 = .ok (.iload_n 1, 1) := by decide +kernel
theorem de_Tk_lettersOf_15 : decode cd_Tk_lettersOf 15 = .ok (.bipush 26, 2) := by decide +kernel
theorem de_Tk_lettersOf_17 : decode cd_Tk_lettersOf 17 = .ok (.isub, 1) := by decide +kernel
theorem de_Tk_lettersOf_18 : decode cd_Tk_lettersOf 18 = .ok (.iaload, 1) := by decide +kernel
theorem de_Tk_lettersOf_19 : decode cd_Tk_lettersOf 19 = .ok (.ireturn, 1) := by decide +kernel
def jb_Tk_lettersOf_19 (N : Nat) (M : mv_M) (s0 : Int32) : Option (Int32 × mv_M) :=
  some (s0, M)
def jb_Tk_lettersOf_0 (N : Nat) (M : mv_M) (v0 : Nat) (v1 : Int32) : Option (Int32 × mv_M) :=
  if 26 ≤ v1 then (Option.bind (mj_getR M v0 8 3) fun x11 =>
  Option.bind x11 fun a18 =>
  Option.bind (mj_ild M a18 0 (v1 - 26)) fun x18 =>
  jb_Tk_lettersOf_19 N M x18) else
  jb_Tk_lettersOf_19 N M 1
def jf_Tk_lettersOf (N : Nat) (M : mv_M) (v0 : Nat) (v1 : Int32) : Option (Int32 × mv_M) := jb_Tk_lettersOf_0 N M v0 v1
set_option maxHeartbeats 4000000 in
set_option maxRecDepth 100000 in
theorem tb_Tk_lettersOf_19 (l : Launch) (D : va_G) (E : Nat → ClassId) (B : Nat) (sa : (Nat → Nat) × Nat × (Nat → Int32)) (M0 M1 : mv_M) (r : Int32) (N : Nat) (M : mv_M) (s0 : Int32) (hJ : jb_Tk_lettersOf_19 N M s0 = some (r, M1)) : mv_G (xg l D E B sa) kd_Tk_lettersOf M0 M1 (some (.int r)) M 19 [] [.int s0] := by
  unfold jb_Tk_lettersOf_19 at hJ
  exact mv_iret (pc := 19) rfl de_Tk_lettersOf_19 hJ
set_option maxHeartbeats 4000000 in
set_option maxRecDepth 100000 in
theorem tb_Tk_lettersOf_0 (l : Launch) (D : va_G) (E : Nat → ClassId) (B : Nat) (sa : (Nat → Nat) × Nat × (Nat → Int32)) (M0 M1 : mv_M) (r : Int32) (N : Nat) (M : mv_M) (v0 : Nat) (v1 : Int32) (hJ : jb_Tk_lettersOf_0 N M v0 v1 = some (r, M1)) : mv_G (xg l D E B sa) kd_Tk_lettersOf M0 M1 (some (.int r)) M 0 [(0, va_rf (some v0)), (1, .int v1)] [] := by
  unfold jb_Tk_lettersOf_0 at hJ
  refine mv_iload_n (pc := 0) (i := 1) de_Tk_lettersOf_0 rfl 1 rfl ?_
  refine mv_bipush (pc := 1) (v := 26) de_Tk_lettersOf_1 (by decide) ?_
  refine mv_icmp_ge (pc := 3) (tgt := 10) de_Tk_lettersOf_3 (by decide) hJ (fun hc3 h3 => ?_) (fun hc3 h3 => ?_)
  · refine mv_aload_n (pc := 10) (i := 0) de_Tk_lettersOf_10 rfl 0 rfl ?_
    refine mv_getR (pc := 11) (f := 3) (kc_8 l D E B sa) (Nat.le_of_ble_eq_true rfl) wt_1_125 de_Tk_lettersOf_11 h3 (fun x11 e11 h11 => ?_)
    refine mv_iload_n (pc := 14) (i := 1) de_Tk_lettersOf_14 rfl 1 rfl ?_
    refine mv_bipush (pc := 15) (v := 26) de_Tk_lettersOf_15 (by decide) ?_
    refine mv_isub (pc := 17) de_Tk_lettersOf_17 ?_
    obtain ⟨a18, ha, h18a⟩ := mj_bindE h11
    subst ha
    refine mv_iald (pc := 18) (t := 0) rfl de_Tk_lettersOf_18 h18a (fun x18 e18 h18 => ?_)
    exact mv_sub [] rfl (tb_Tk_lettersOf_19 l D E B sa M0 M1 r N M x18 h18)
  · refine mv_iconst (pc := 6) (v := 1) de_Tk_lettersOf_6 (by decide) ?_
    refine mv_goto (pc := 7) (tgt := 19) de_Tk_lettersOf_7 (by decide) ?_
    exact mv_sub [] rfl (tb_Tk_lettersOf_19 l D E B sa M0 M1 r N M 1 h3)
theorem cm_Tk_lettersOf (l : Launch) (D : va_G) (E : Nat → ClassId) (B : Nat) (sa : (Nat → Nat) × Nat × (Nat → Int32)) (N : Nat) (M : mv_M) (v0 : Nat) (v1 : Int32) (r : Int32) (M1 : mv_M) (hJ : jf_Tk_lettersOf N M v0 v1 = some (r, M1)) : mv_Met (xg l D E B sa) yn_Tk_lettersOf cd_Tk_lettersOf 2 (some .int) 0 0 [va_rf (some v0), .int v1] M (some (.int r)) M1 :=
  mv_enter (by decide) (Nat.le_of_ble_eq_true rfl) (mv_sub (lv := [(0, va_rf (some v0)), (1, .int v1)]) [0, 1] rfl (tb_Tk_lettersOf_0 l D E B sa M M1 r N M v0 v1 hJ))
