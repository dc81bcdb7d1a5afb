/-! ===== PlainLearner$Table.bestCutOf(I)I ===== -/
abbrev kd_Ta_bestCutOf : mv_Kd := (cd_Ta_bestCutOf, 9, "PlainLearner$Table", "bestCutOf", (some .int), 3, 81)
theorem de_Ta_bestCutOf_0 : decode cd_Ta_bestCutOf 0 = .ok (.sipush 10000, 3) := by decide +kernel
theorem de_Ta_bestCutOf_3 : decode cd_Ta_bestCutOf 3 = .ok (.istore_n 2, 1) := by decide +kernel
theorem de_Ta_bestCutOf_4 : decode cd_Ta_bestCutOf 4 = .ok (.lconst 0, 1) := by decide +kernel
theorem de_Ta_bestCutOf_5 : decode cd_Ta_bestCutOf 5 = .ok (.lstore_n 3, 1) := by decide +kernel
theorem de_Ta_bestCutOf_6 : decode cd_Ta_bestCutOf 6 = .ok (.iconst 0, 1) := by decide +kernel
theorem de_Ta_bestCutOf_7 : decode cd_Ta_bestCutOf 7 = .ok (.istore 5, 2) := by decide +kernel
theorem de_Ta_bestCutOf_9 : decode cd_Ta_bestCutOf 9 = .ok (.iload 5, 2) := by decide +kernel
theorem de_Ta_bestCutOf_11 : decode cd_Ta_bestCutOf 11 = .ok (.aload_n 0, 1) := by decide +kernel
theorem de_Ta_bestCutOf_12 : decode cd_Ta_bestCutOf 12 = .ok (.getfield 28, 3) := by decide +kernel
theorem de_Ta_bestCutOf_15 : decode cd_Ta_bestCutOf 15 = .ok (.if_icmp .ge 66, 3) := by decide +kernel
theorem de_Ta_bestCutOf_18 : decode cd_Ta_bestCutOf 18 = .ok (.aload_n 0, 1) := by decide +kernel
theorem de_Ta_bestCutOf_19 : decode cd_Ta_bestCutOf 19 = .ok (.getfield 11, 3) := by decide +kernel
theorem de_Ta_bestCutOf_22 : decode cd_Ta_bestCutOf 22 = .ok (.iload 5, 2) := by decide +kernel
theorem de_Ta_bestCutOf_24 : decode cd_Ta_bestCutOf 24 = .ok (.iconst 4, 1) := by decide +kernel
theorem de_Ta_bestCutOf_25 : decode cd_Ta_bestCutOf 25 = .ok (.imul, 1) := by decide +kernel
theorem de_Ta_bestCutOf_26 : decode cd_Ta_bestCutOf 26 = .ok (.iload_n 1, 1) := by decide +kernel
theorem de_Ta_bestCutOf_27 : decode cd_Ta_bestCutOf 27 = .ok (.iadd, 1) := by decide +kernel
theorem de_Ta_bestCutOf_28 : decode cd_Ta_bestCutOf 28 = .ok (.iaload, 1) := by decide +kernel
theorem de_Ta_bestCutOf_29 : decode cd_Ta_bestCutOf 29 = .ok (.istore 6, 2) := by decide +kernel
theorem de_Ta_bestCutOf_31 : decode cd_Ta_bestCutOf 31 = .ok (.aload_n 0, 1) := by decide +kernel
theorem de_Ta_bestCutOf_32 : decode cd_Ta_bestCutOf 32 = .ok (.iload_n 1, 1) := by decide +kernel
theorem de_Ta_bestCutOf_33 : decode cd_Ta_bestCutOf 33 = .ok (.iload 6, 2) := by decide +kernel
theorem de_Ta_bestCutOf_35 : decode cd_Ta_bestCutOf 35 = .ok (.invokevirtual 48, 3) := by decide +kernel
theorem de_Ta_bestCutOf_38 : decode cd_Ta_bestCutOf 38 = .ok (.lstore 7, 2) := by decide +kernel
theorem de_Ta_bestCutOf_40 : decode cd_Ta_bestCutOf 40 = .ok (.lload 7, 2) := by decide +kernel
theorem de_Ta_bestCutOf_42 : decode cd_Ta_bestCutOf 42 = .ok (.lload_n 3, 1) := by decide +kernel
theorem de_Ta_bestCutOf_43 : decode cd_Ta_bestCutOf 43 = .ok (.invokestatic 52, 3) := by decide +kernel
theorem de_Ta_bestCutOf_46 : decode cd_Ta_bestCutOf 46 = .ok (.ifCond .ne 23, 3) := by decide +kernel
theorem de_Ta_bestCutOf_49 : decode cd_Ta_bestCutOf 49 = .ok (.lload 7, 2) := by decide +kernel
theorem de_Ta_bestCutOf_51 : decode cd_Ta_bestCutOf 51 = .ok (.lconst 0, 1) := by decide +kernel
theorem de_Ta_bestCutOf_52 : decode cd_Ta_bestCutOf 52 = .ok (.lcmp, 1) := by decide +kernel
theorem de_Ta_bestCutOf_53 : decode cd_Ta_bestCutOf 53 = .ok (.ifCond .eq 22, 3) := by decide +kernel
theorem de_Ta_bestCutOf_56 : decode cd_Ta_bestCutOf 56 = .ok (.lload 7, 2) := by decide +kernel
theorem de_Ta_bestCutOf_58 : decode cd_Ta_bestCutOf 58 = .ok (.lload_n 3, 1) := by decide +kernel
theorem de_Ta_bestCutOf_59 : decode cd_Ta_bestCutOf 59 = .ok (.lcmp, 1) := by decide +kernel
theorem de_Ta_bestCutOf_60 : decode cd_Ta_bestCutOf 60 = .ok (.ifCond .ne 15, 3) := by decide +kernel
theorem de_Ta_bestCutOf_63 : decode cd_Ta_bestCutOf 63 = .ok (.iload 6, 2) := by decide +kernel
theorem de_Ta_bestCutOf_65 : decode cd_Ta_bestCutOf 65 = .ok (.iload_n 2, 1) := by decide +kernel
theorem de_Ta_bestCutOf_66 : decode cd_Ta_bestCutOf 66 = .ok (.if_icmp .ge 9, 3) := by decide +kernel
theorem de_Ta_bestCutOf_69 : decode cd_Ta_bestCutOf 69 = .ok (.iload 6, 2) := by decide +kernel
theorem de_Ta_bestCutOf_71 : decode cd_Ta_bestCutOf 71 = .ok (.istore_n 2, 1) := by decide +kernel
theorem de_Ta_bestCutOf_72 : decode cd_Ta_bestCutOf 72 = .ok (.lload 7, 2) := by decide +kernel
theorem de_Ta_bestCutOf_74 : decode cd_Ta_bestCutOf 74 = .ok (.lstore_n 3, 1) := by decide +kernel
theorem de_Ta_bestCutOf_75 : decode cd_Ta_bestCutOf 75 = .ok (.iinc 5 1, 3) := by decide +kernel
theorem de_Ta_bestCutOf_78 : decode cd_Ta_bestCutOf 78 = .ok (.goto (-69), 3) := by decide +kernel
theorem de_Ta_bestCutOf_81 : decode cd_Ta_bestCutOf 81 = .ok (.iload_n 2, 1) := by decide +kernel
theorem de_Ta_bestCutOf_82 : decode cd_Ta_bestCutOf 82 = .ok (.ireturn, 1) := by decide +kernel
def jb_Ta_bestCutOf_75 (N : Nat) (k9 : mv_M → Nat → Int32 → Int32 → Int64 → Int32 → Option (Int32 × mv_M)) (M : mv_M) (v0 : Nat) (v1 : Int32) (v2 : Int32) (v3 : Int64) (v5 : Int32) : Option (Int32 × mv_M) :=
  k9 M v0 v1 v2 v3 (v5 + 1)
def jb_Ta_bestCutOf_69 (N : Nat) (k9 : mv_M → Nat → Int32 → Int32 → Int64 → Int32 → Option (Int32 × mv_M)) (M : mv_M) (v0 : Nat) (v1 : Int32) (v5 : Int32) (v6 : Int32) (v7 : Int64) : Option (Int32 × mv_M) :=
  jb_Ta_bestCutOf_75 N k9 M v0 v1 v6 v7 v5
def jb_Ta_bestCutOf_9 (N : Nat) : Nat → mv_M → Nat → Int32 → Int32 → Int64 → Int32 → Option (Int32 × mv_M)
  | 0, _, _, _, _, _, _ => none
  | n + 1, M, v0, v1, v2, v3, v5 =>
    Option.bind (mj_getI M v0 6 4) fun x12 =>
    if x12 ≤ v5 then (some (v2, M)) else
    Option.bind (mj_getR M v0 6 0) fun x19 =>
    Option.bind x19 fun a28 =>
    Option.bind (mj_ild M a28 0 ((v5 * 4) + v1)) fun x28 =>
    mj_ob M v0 6 <|
    mj_call (jf_Ta_costOf N M v0 v1 x28) fun r35 Mm35 =>
    mj_call (jf_Ta_isLess N Mm35 r35 v3) fun r43 Mm43 =>
    if r43 = 0 then (if (lg_cmp r35 0) = 0 then (jb_Ta_bestCutOf_75 N (jb_Ta_bestCutOf_9 N n) Mm43 v0 v1 v2 v3 v5) else
    if (lg_cmp r35 v3) = 0 then (if v2 ≤ x28 then (jb_Ta_bestCutOf_75 N (jb_Ta_bestCutOf_9 N n) Mm43 v0 v1 v2 v3 v5) else
    jb_Ta_bestCutOf_69 N (jb_Ta_bestCutOf_9 N n) Mm43 v0 v1 v5 x28 r35) else
    jb_Ta_bestCutOf_75 N (jb_Ta_bestCutOf_9 N n) Mm43 v0 v1 v2 v3 v5) else
    jb_Ta_bestCutOf_69 N (jb_Ta_bestCutOf_9 N n) Mm43 v0 v1 v5 x28 r35
def jb_Ta_bestCutOf_0 (N : Nat) (M : mv_M) (v0 : Nat) (v1 : Int32) : Option (Int32 × mv_M) :=
  jb_Ta_bestCutOf_9 N N M v0 v1 10000 0 0
def jf_Ta_bestCutOf (N : Nat) (M : mv_M) (v0 : Nat) (v1 : Int32) : Option (Int32 × mv_M) := jb_Ta_bestCutOf_0 N M v0 v1
set_option maxHeartbeats 4000000 in
set_option maxRecDepth 100000 in
theorem tb_Ta_bestCutOf_75 (l : Launch) (D : va_G) (E : Nat → ClassId) (B : Nat) (sa : (Nat → Nat) × Nat × (Nat → Int32)) (M0 M1 : mv_M) (r : Int32) (N : Nat) (k9 : mv_M → Nat → Int32 → Int32 → Int64 → Int32 → Option (Int32 × mv_M)) (hk9 : ∀ (M : mv_M) (v0 : Nat) (v1 : Int32) (v2 : Int32) (v3 : Int64) (v5 : Int32), k9 M v0 v1 v2 v3 v5 = some (r, M1) → mv_G (xg l D E B sa) kd_Ta_bestCutOf M0 M1 (some (.int r)) M 9 [(0, va_rf (some v0)), (1, .int v1), (2, .int v2), (3, .long v3), (5, .int v5)] []) (M : mv_M) (v0 : Nat) (v1 : Int32) (v2 : Int32) (v3 : Int64) (v5 : Int32) (hJ : jb_Ta_bestCutOf_75 N k9 M v0 v1 v2 v3 v5 = some (r, M1)) : mv_G (xg l D E B sa) kd_Ta_bestCutOf M0 M1 (some (.int r)) M 75 [(0, va_rf (some v0)), (1, .int v1), (2, .int v2), (3, .long v3), (5, .int v5)] [] := by
  unfold jb_Ta_bestCutOf_75 at hJ
  refine mv_iinc (pc := 75) (v := (v5 + 1)) (lv' := [(5, .int (v5 + 1)), (0, va_rf (some v0)), (1, .int v1), (2, .int v2), (3, .long v3)]) de_Ta_bestCutOf_75 4 rfl rfl (Nat.le_of_ble_eq_true rfl) rfl ?_
  refine mv_goto (pc := 78) (tgt := 9) de_Ta_bestCutOf_78 (by decide) ?_
  exact mv_sub [1, 2, 3, 4, 0] rfl (hk9 M v0 v1 v2 v3 (v5 + 1) hJ)
set_option maxHeartbeats 4000000 in
set_option maxRecDepth 100000 in
theorem tb_Ta_bestCutOf_69 (l : Launch) (D : va_G) (E : Nat → ClassId) (B : Nat) (sa : (Nat → Nat) × Nat × (Nat → Int32)) (M0 M1 : mv_M) (r : Int32) (N : Nat) (k9 : mv_M → Nat → Int32 → Int32 → Int64 → Int32 → Option (Int32 × mv_M)) (hk9 : ∀ (M : mv_M) (v0 : Nat) (v1 : Int32) (v2 : Int32) (v3 : Int64) (v5 : Int32), k9 M v0 v1 v2 v3 v5 = some (r, M1) → mv_G (xg l D E B sa) kd_Ta_bestCutOf M0 M1 (some (.int r)) M 9 [(0, va_rf (some v0)), (1, .int v1), (2, .int v2), (3, .long v3), (5, .int v5)] []) (M : mv_M) (v0 : Nat) (v1 : Int32) (v5 : Int32) (v6 : Int32) (v7 : Int64) (hJ : jb_Ta_bestCutOf_69 N k9 M v0 v1 v5 v6 v7 = some (r, M1)) : mv_G (xg l D E B sa) kd_Ta_bestCutOf M0 M1 (some (.int r)) M 69 [(0, va_rf (some v0)), (1, .int v1), (5, .int v5), (6, .int v6), (7, .long v7)] [] := by
  unfold jb_Ta_bestCutOf_69 at hJ
  refine mv_iload (pc := 69) de_Ta_bestCutOf_69 3 rfl ?_
  refine mv_istore_n (pc := 71) (i := 2) (lv' := [(2, .int v6), (0, va_rf (some v0)), (1, .int v1), (5, .int v5), (6, .int v6), (7, .long v7)]) de_Ta_bestCutOf_71 rfl (Nat.le_of_ble_eq_true rfl) rfl ?_
  refine mv_lload (pc := 72) de_Ta_bestCutOf_72 5 rfl ?_
  refine mv_lstore_n (pc := 74) (i := 3) (lv' := [(3, .long v7), (2, .int v6), (0, va_rf (some v0)), (1, .int v1), (5, .int v5), (6, .int v6), (7, .long v7)]) de_Ta_bestCutOf_74 rfl (Nat.le_of_ble_eq_true rfl) rfl ?_
  exact mv_sub [2, 3, 1, 0, 4] rfl (tb_Ta_bestCutOf_75 l D E B sa M0 M1 r N k9 hk9 M v0 v1 v6 v7 v5 hJ)
set_option maxHeartbeats 4000000 in
set_option maxRecDepth 100000 in
theorem tb_Ta_bestCutOf_9 (l : Launch) (D : va_G) (E : Nat → ClassId) (B : Nat) (sa : (Nat → Nat) × Nat × (Nat → Int32)) (M0 M1 : mv_M) (r : Int32) (N : Nat) : ∀ (n : Nat) (M : mv_M) (v0 : Nat) (v1 : Int32) (v2 : Int32) (v3 : Int64) (v5 : Int32) (hJ : jb_Ta_bestCutOf_9 N n M v0 v1 v2 v3 v5 = some (r, M1)), mv_G (xg l D E B sa) kd_Ta_bestCutOf M0 M1 (some (.int r)) M 9 [(0, va_rf (some v0)), (1, .int v1), (2, .int v2), (3, .long v3), (5, .int v5)] [] := by
  intro n
  induction n with
  | zero => intro M v0 v1 v2 v3 v5 hJ; cases hJ
  | succ n ih =>
    intro M v0 v1 v2 v3 v5 hJ
    rw [jb_Ta_bestCutOf_9] at hJ
    refine mv_iload (pc := 9) de_Ta_bestCutOf_9 4 rfl ?_
    refine mv_aload_n (pc := 11) (i := 0) de_Ta_bestCutOf_11 rfl 0 rfl ?_
    refine mv_getI (pc := 12) (f := 4) (kc_6 l D E B sa) (Nat.le_of_ble_eq_true rfl) wt_1_70 de_Ta_bestCutOf_12 hJ (fun x12 e12 h12 => ?_)
    refine mv_icmp_ge (pc := 15) (tgt := 81) de_Ta_bestCutOf_15 (by decide) h12 (fun hc15 h15 => ?_) (fun hc15 h15 => ?_)
    · refine mv_iload_n (pc := 81) (i := 2) de_Ta_bestCutOf_81 rfl 2 rfl ?_
      exact mv_iret (pc := 82) rfl de_Ta_bestCutOf_82 h15
    · refine mv_aload_n (pc := 18) (i := 0) de_Ta_bestCutOf_18 rfl 0 rfl ?_
      refine mv_getR (pc := 19) (f := 0) (kc_6 l D E B sa) (Nat.le_of_ble_eq_true rfl) wt_1_66 de_Ta_bestCutOf_19 h15 (fun x19 e19 h19 => ?_)
      refine mv_iload (pc := 22) de_Ta_bestCutOf_22 4 rfl ?_
      refine mv_iconst (pc := 24) (v := 4) de_Ta_bestCutOf_24 (by decide) ?_
      refine mv_imul (pc := 25) de_Ta_bestCutOf_25 ?_
      refine mv_iload_n (pc := 26) (i := 1) de_Ta_bestCutOf_26 rfl 1 rfl ?_
      refine mv_iadd (pc := 27) de_Ta_bestCutOf_27 ?_
      obtain ⟨a28, ha, h28a⟩ := mj_bindE h19
      subst ha
      refine mv_iald (pc := 28) (t := 0) rfl de_Ta_bestCutOf_28 h28a (fun x28 e28 h28 => ?_)
      refine mv_istore (pc := 29) (lv' := [(6, .int x28), (0, va_rf (some v0)), (1, .int v1), (2, .int v2), (3, .long v3), (5, .int v5)]) de_Ta_bestCutOf_29 (Nat.le_of_ble_eq_true rfl) rfl ?_
      refine mv_aload_n (pc := 31) (i := 0) de_Ta_bestCutOf_31 rfl 1 rfl ?_
      refine mv_iload_n (pc := 32) (i := 1) de_Ta_bestCutOf_32 rfl 2 rfl ?_
      refine mv_iload (pc := 33) de_Ta_bestCutOf_33 0 rfl ?_
      obtain ⟨hi35, h35o⟩ := mj_obE h28
      obtain ⟨r35, Mm35, hz35, h35⟩ := mj_callE h35o
      refine mv_callV (pc := 35) (n := 2) (av := [.int v1, .int x28]) (rest := []) de_Ta_bestCutOf_35 (kc_6 l D E B sa) hi35 (cm_Ta_costOf l D E B sa N M v0 v1 x28 _ _ hz35) wt_3_98 wt_3_99 wt_3_100 wt_1_4 wt_3_101 ⟨by decide, by decide, by decide +kernel⟩ rfl ⟨Nat.le_of_ble_eq_true rfl, Nat.le_of_ble_eq_true rfl⟩ (Nat.le_of_ble_eq_true rfl) rfl ?_
      refine mv_lstore (pc := 38) (lv' := [(7, .long r35), (6, .int x28), (0, va_rf (some v0)), (1, .int v1), (2, .int v2), (3, .long v3), (5, .int v5)]) de_Ta_bestCutOf_38 (Nat.le_of_ble_eq_true rfl) rfl ?_
      refine mv_lload (pc := 40) de_Ta_bestCutOf_40 0 rfl ?_
      refine mv_lload_n (pc := 42) (i := 3) de_Ta_bestCutOf_42 rfl 5 rfl ?_
      obtain ⟨r43, Mm43, hz43, h43⟩ := mj_callE h35
      refine mv_callS (pc := 43) (n := 2) (av := [.long r35, .long v3]) (rest := []) de_Ta_bestCutOf_43 (cm_Ta_isLess l D E B sa N Mm35 r35 v3 _ _ hz43) wt_3_109 wt_3_110 wt_1_4 wt_3_111 ⟨by decide, by decide, by decide +kernel⟩ rfl ⟨Nat.le_of_ble_eq_true rfl, Nat.le_of_ble_eq_true rfl⟩ (Nat.le_of_ble_eq_true rfl) rfl ?_
      refine mv_if_ne (pc := 46) (tgt := 69) de_Ta_bestCutOf_46 (by decide) h43 (fun hc46 h46 => ?_) (fun hc46 h46 => ?_)
      · refine mv_lload (pc := 49) de_Ta_bestCutOf_49 0 rfl ?_
        refine mv_lconst (pc := 51) (v := 0) de_Ta_bestCutOf_51 (by decide) ?_
        refine mv_lcmp (pc := 52) de_Ta_bestCutOf_52 ?_
        refine mv_if_eq (pc := 53) (tgt := 75) de_Ta_bestCutOf_53 (by decide) h46 (fun hc53 h53 => ?_) (fun hc53 h53 => ?_)
        · exact mv_sub [2, 3, 4, 5, 6] rfl (tb_Ta_bestCutOf_75 l D E B sa M0 M1 r N (jb_Ta_bestCutOf_9 N n) ih Mm43 v0 v1 v2 v3 v5 h53)
        · refine mv_lload (pc := 56) de_Ta_bestCutOf_56 0 rfl ?_
          refine mv_lload_n (pc := 58) (i := 3) de_Ta_bestCutOf_58 rfl 5 rfl ?_
          refine mv_lcmp (pc := 59) de_Ta_bestCutOf_59 ?_
          refine mv_if_ne (pc := 60) (tgt := 75) de_Ta_bestCutOf_60 (by decide) h53 (fun hc60 h60 => ?_) (fun hc60 h60 => ?_)
          · refine mv_iload (pc := 63) de_Ta_bestCutOf_63 1 rfl ?_
            refine mv_iload_n (pc := 65) (i := 2) de_Ta_bestCutOf_65 rfl 4 rfl ?_
            refine mv_icmp_ge (pc := 66) (tgt := 75) de_Ta_bestCutOf_66 (by decide) h60 (fun hc66 h66 => ?_) (fun hc66 h66 => ?_)
            · exact mv_sub [2, 3, 4, 5, 6] rfl (tb_Ta_bestCutOf_75 l D E B sa M0 M1 r N (jb_Ta_bestCutOf_9 N n) ih Mm43 v0 v1 v2 v3 v5 h66)
            · exact mv_sub [2, 3, 6, 1, 0] rfl (tb_Ta_bestCutOf_69 l D E B sa M0 M1 r N (jb_Ta_bestCutOf_9 N n) ih Mm43 v0 v1 v5 x28 r35 h66)
          · exact mv_sub [2, 3, 4, 5, 6] rfl (tb_Ta_bestCutOf_75 l D E B sa M0 M1 r N (jb_Ta_bestCutOf_9 N n) ih Mm43 v0 v1 v2 v3 v5 h60)
      · exact mv_sub [2, 3, 6, 1, 0] rfl (tb_Ta_bestCutOf_69 l D E B sa M0 M1 r N (jb_Ta_bestCutOf_9 N n) ih Mm43 v0 v1 v5 x28 r35 h46)
set_option maxHeartbeats 4000000 in
set_option maxRecDepth 100000 in
theorem tb_Ta_bestCutOf_0 (l : Launch) (D : va_G) (E : Nat → ClassId) (B : Nat) (sa : (Nat → Nat) × Nat × (Nat → Int32)) (M0 M1 : mv_M) (r : Int32) (N : Nat) (M : mv_M) (v0 : Nat) (v1 : Int32) (hJ : jb_Ta_bestCutOf_0 N M v0 v1 = some (r, M1)) : mv_G (xg l D E B sa) kd_Ta_bestCutOf M0 M1 (some (.int r)) M 0 [(0, va_rf (some v0)), (1, .int v1)] [] := by
  unfold jb_Ta_bestCutOf_0 at hJ
  refine mv_sipush (pc := 0) (v := 10000) de_Ta_bestCutOf_0 (by decide) ?_
  refine mv_istore_n (pc := 3) (i := 2) (lv' := [(2, .int 10000), (0, va_rf (some v0)), (1, .int v1)]) de_Ta_bestCutOf_3 rfl (Nat.le_of_ble_eq_true rfl) rfl ?_
  refine mv_lconst (pc := 4) (v := 0) de_Ta_bestCutOf_4 (by decide) ?_
  refine mv_lstore_n (pc := 5) (i := 3) (lv' := [(3, .long 0), (2, .int 10000), (0, va_rf (some v0)), (1, .int v1)]) de_Ta_bestCutOf_5 rfl (Nat.le_of_ble_eq_true rfl) rfl ?_
  refine mv_iconst (pc := 6) (v := 0) de_Ta_bestCutOf_6 (by decide) ?_
  refine mv_istore (pc := 7) (lv' := [(5, .int 0), (3, .long 0), (2, .int 10000), (0, va_rf (some v0)), (1, .int v1)]) de_Ta_bestCutOf_7 (Nat.le_of_ble_eq_true rfl) rfl ?_
  exact mv_sub [3, 4, 2, 1, 0] rfl (tb_Ta_bestCutOf_9 l D E B sa M0 M1 r N N M v0 v1 10000 0 0 hJ)
theorem cm_Ta_bestCutOf (l : Launch) (D : va_G) (E : Nat → ClassId) (B : Nat) (sa : (Nat → Nat) × Nat × (Nat → Int32)) (N : Nat) (M : mv_M) (v0 : Nat) (v1 : Int32) (r : Int32) (M1 : mv_M) (hJ : jf_Ta_bestCutOf N M v0 v1 = some (r, M1)) : mv_Met (xg l D E B sa) yn_Ta_bestCutOf cd_Ta_bestCutOf 9 (some .int) 3 81 [va_rf (some v0), .int v1] M (some (.int r)) M1 :=
  mv_enter (by decide) (Nat.le_of_ble_eq_true rfl) (mv_sub (lv := [(0, va_rf (some v0)), (1, .int v1)]) [0, 1] rfl (tb_Ta_bestCutOf_0 l D E B sa M M1 r N M v0 v1 hJ))
/-! ===== PlainLearner.cut(I)I ===== -/
abbrev kd_PL_cut : mv_Kd := (cd_PL_cut, 2, "PlainLearner", "cut", (some .int), 4, 109)
theorem de_PL_cut_0 : decode cd_PL_cut 0 = .ok (.iload_n 1, 1) := by decide +kernel
theorem de_PL_cut_1 : decode cd_PL_cut 1 = .ok (.invokestatic 126, 3) := by decide +kernel
theorem de_PL_cut_4 : decode cd_PL_cut 4 = .ok (.ifCond .eq 14, 3) := by decide +kernel
theorem de_PL_cut_7 : decode cd_PL_cut 7 = .ok (.aload_n 0, 1) := by decide +kernel
theorem de_PL_cut_8 : decode cd_PL_cut 8 = .ok (.getfield 19, 3) := by decide +kernel
theorem de_PL_cut_11 : decode cd_PL_cut 11 = .ok (.iload_n 1, 1) := by decide +kernel
theorem de_PL_cut_12 : decode cd_PL_cut 12 = .ok (.invokevirtual 129, 3) := by decide +kernel
theorem de_PL_cut_15 : decode cd_PL_cut 15 = .ok (.goto 4, 3) := by decide +kernel
theorem de_PL_cut_18 : decode cd_PL_cut 18 = .ok (.iconst (-1), 1) := by decide +kernel
theorem de_PL_cut_19 : decode cd_PL_cut 19 = .ok (.ireturn, 1) := by decide +kernel
def jb_PL_cut_19 (N : Nat) (M : mv_M) (s0 : Int32) : Option (Int32 × mv_M) :=
  some (s0, M)
def jb_PL_cut_0 (N : Nat) (M : mv_M) (v0 : Nat) (v1 : Int32) : Option (Int32 × mv_M) :=
  mj_call (jf_Ta_isColumn N M v1) fun r1 Mm1 =>
  if r1 = 0 then (jb_PL_cut_19 N Mm1 (-1)) else
  Option.bind (mj_getR Mm1 v0 0 1) fun x8 =>
  Option.bind x8 fun a12 =>
  mj_ob Mm1 a12 6 <|
  mj_call (jf_Ta_bestCutOf N Mm1 a12 v1) fun r12 Mm12 =>
  jb_PL_cut_19 N Mm12 r12
def jf_PL_cut (N : Nat) (M : mv_M) (v0 : Nat) (v1 : Int32) : Option (Int32 × mv_M) := jb_PL_cut_0 N M v0 v1
set_option maxHeartbeats 4000000 in
set_option maxRecDepth 100000 in
theorem tb_PL_cut_19 (l : Launch) (D : va_G) (E : Nat → ClassId) (B : Nat) (sa : (Nat → Nat) × Nat × (Nat → Int32)) (M0 M1 : mv_M) (r : Int32) (N : Nat) (M : mv_M) (s0 : Int32) (hJ : jb_PL_cut_19 N M s0 = some (r, M1)) : mv_G (xg l D E B sa) kd_PL_cut M0 M1 (some (.int r)) M 19 [] [.int s0] := by
  unfold jb_PL_cut_19 at hJ
  exact mv_iret (pc := 19) rfl de_PL_cut_19 hJ
set_option maxHeartbeats 4000000 in
set_option maxRecDepth 100000 in
theorem tb_PL_cut_0 (l : Launch) (D : va_G) (E : Nat → ClassId) (B : Nat) (sa : (Nat → Nat) × Nat × (Nat → Int32)) (M0 M1 : mv_M) (r : Int32) (N : Nat) (M : mv_M) (v0 : Nat) (v1 : Int32) (hJ : jb_PL_cut_0 N M v0 v1 = some (r, M1)) : mv_G (xg l D E B sa) kd_PL_cut M0 M1 (some (.int r)) M 0 [(0, va_rf (some v0)), (1, .int v1)] [] := by
  unfold jb_PL_cut_0 at hJ
  refine mv_iload_n (pc := 0) (i := 1) de_PL_cut_0 rfl 1 rfl ?_
  obtain ⟨r1, Mm1, hz1, h1⟩ := mj_callE hJ
  refine mv_callS (pc := 1) (n := 1) (av := [.int v1]) (rest := []) de_PL_cut_1 (cm_Ta_isColumn l D E B sa N M v1 _ _ hz1) wt_3_91 wt_3_92 wt_1_4 wt_3_93 ⟨by decide, by decide, by decide +kernel⟩ rfl ⟨Nat.le_of_ble_eq_true rfl, Nat.le_of_ble_eq_true rfl⟩ (Nat.le_of_ble_eq_true rfl) rfl ?_
  refine mv_if_eq (pc := 4) (tgt := 18) de_PL_cut_4 (by decide) h1 (fun hc4 h4 => ?_) (fun hc4 h4 => ?_)
  · refine mv_iconst (pc := 18) (v := (-1)) de_PL_cut_18 (by decide) ?_
    exact mv_sub [] rfl (tb_PL_cut_19 l D E B sa M0 M1 r N Mm1 (-1) h4)
  · refine mv_aload_n (pc := 7) (i := 0) de_PL_cut_7 rfl 0 rfl ?_
    refine mv_getR (pc := 8) (f := 1) (kc_0 l D E B sa) (Nat.le_of_ble_eq_true rfl) wt_1_147 de_PL_cut_8 h4 (fun x8 e8 h8 => ?_)
    refine mv_iload_n (pc := 11) (i := 1) de_PL_cut_11 rfl 1 rfl ?_
    obtain ⟨a12, ha, h12a⟩ := mj_bindE h8
    subst ha
    obtain ⟨hi12, h12o⟩ := mj_obE h12a
    obtain ⟨r12, Mm12, hz12, h12⟩ := mj_callE h12o
    refine mv_callV (pc := 12) (n := 1) (av := [.int v1]) (rest := []) de_PL_cut_12 (kc_6 l D E B sa) hi12 (cm_Ta_bestCutOf l D E B sa N Mm1 a12 v1 _ _ hz12) wt_3_94 wt_3_95 wt_3_96 wt_1_4 wt_3_97 ⟨by decide, by decide, by decide +kernel⟩ rfl ⟨Nat.le_of_ble_eq_true rfl, Nat.le_of_ble_eq_true rfl⟩ (Nat.le_of_ble_eq_true rfl) rfl ?_
    refine mv_goto (pc := 15) (tgt := 19) de_PL_cut_15 (by decide) ?_
    exact mv_sub [] rfl (tb_PL_cut_19 l D E B sa M0 M1 r N Mm12 r12 h12)
theorem cm_PL_cut (l : Launch) (D : va_G) (E : Nat → ClassId) (B : Nat) (sa : (Nat → Nat) × Nat × (Nat → Int32)) (N : Nat) (M : mv_M) (v0 : Nat) (v1 : Int32) (r : Int32) (M1 : mv_M) (hJ : jf_PL_cut N M v0 v1 = some (r, M1)) : mv_Met (xg l D E B sa) yn_PL_cut cd_PL_cut 2 (some .int) 4 109 [va_rf (some v0), .int v1] M (some (.int r)) M1 :=
  mv_enter (by decide) (Nat.le_of_ble_eq_true rfl) (mv_sub (lv := [(0, va_rf (some v0)), (1, .int v1)]) [0, 1] rfl (tb_PL_cut_0 l D E B sa M M1 r N M v0 v1 hJ))
/-! ===== PlainLearner.cost(III)J ===== -/
abbrev kd_PL_cost : mv_Kd := (cd_PL_cost, 4, "PlainLearner", "cost", (some .long), 3, 81)
theorem de_PL_cost_0 : decode cd_PL_cost 0 = .ok (.iload_n 1, 1) := by decide +kernel
theorem de_PL_cost_1 : decode cd_PL_cost 1 = .ok (.invokestatic 126, 3) := by decide +kernel
theorem de_PL_cost_4 : decode cd_PL_cost 4 = .ok (.ifCond .eq 10, 3) := by decide +kernel
theorem de_PL_cost_7 : decode cd_PL_cost 7 = .ok (.iload_n 3, 1) := by decide +kernel
theorem de_PL_cost_8 : decode cd_PL_cost 8 = .ok (.invokestatic 82, 3) := by decide +kernel
theorem de_PL_cost_11 : decode cd_PL_cost 11 = .ok (.ifCond .ne 7, 3) := by decide +kernel
theorem de_PL_cost_14 : decode cd_PL_cost 14 = .ok (.ldc2_w 85, 3) := by decide +kernel
theorem de_PL_cost_17 : decode cd_PL_cost 17 = .ok (.lreturn, 1) := by decide +kernel
theorem de_PL_cost_18 : decode cd_PL_cost 18 = .ok (.aload_n 0, 1) := by decide +kernel
theorem de_PL_cost_19 : decode cd_PL_cost 19 = .ok (.getfield 19, 3) := by decide +kernel
theorem de_PL_cost_22 : decode cd_PL_cost 22 = .ok (.iload_n 1, 1) := by decide +kernel
theorem de_PL_cost_23 : decode cd_PL_cost 23 = .ok (.iload_n 2, 1) := by decide +kernel
theorem de_PL_cost_24 : decode cd_PL_cost 24 = .ok (.invokevirtual 132, 3) := by decide +kernel
theorem de_PL_cost_27 : decode cd_PL_cost 27 = .ok (.iload_n 3, 1) := by decide +kernel
theorem de_PL_cost_28 : decode cd_PL_cost 28 = .ok (.invokestatic 95, 3) := by decide +kernel
theorem de_PL_cost_31 : decode cd_PL_cost 31 = .ok (.lreturn, 1) := by decide +kernel
def jb_PL_cost_14 (N : Nat) (M : mv_M) : Option (Int64 × mv_M) :=
  some ((-1099511627776), M)
def jb_PL_cost_0 (N : Nat) (M : mv_M) (v0 : Nat) (v1 : Int32) (v2 : Int32) (v3 : Int32) : Option (Int64 × mv_M) :=
  mj_call (jf_Ta_isColumn N M v1) fun r1 Mm1 =>
  if r1 = 0 then (jb_PL_cost_14 N Mm1) else
  mj_call (jf_PL_isSide N Mm1 v3) fun r8 Mm8 =>
  if r8 = 0 then (jb_PL_cost_14 N Mm8) else
  Option.bind (mj_getR Mm8 v0 0 1) fun x19 =>
  Option.bind x19 fun a24 =>
  mj_ob Mm8 a24 6 <|
  mj_call (jf_Ta_costOf N Mm8 a24 v1 v2) fun r24 Mm24 =>
  mj_call (jf_Fr_sideOf N Mm24 r24 v3) fun r28 Mm28 =>
  some (r28, Mm28)
def jf_PL_cost (N : Nat) (M : mv_M) (v0 : Nat) (v1 : Int32) (v2 : Int32) (v3 : Int32) : Option (Int64 × mv_M) := jb_PL_cost_0 N M v0 v1 v2 v3
set_option maxHeartbeats 4000000 in
set_option maxRecDepth 100000 in
theorem tb_PL_cost_14 (l : Launch) (D : va_G) (E : Nat → ClassId) (B : Nat) (sa : (Nat → Nat) × Nat × (Nat → Int32)) (M0 M1 : mv_M) (r : Int64) (N : Nat) (M : mv_M) (hJ : jb_PL_cost_14 N M = some (r, M1)) : mv_G (xg l D E B sa) kd_PL_cost M0 M1 (some (.long r)) M 14 [] [] := by
  unfold jb_PL_cost_14 at hJ
  refine mv_ldc2 (pc := 14) de_PL_cost_14 wt_2_168 ?_
  exact mv_lret (pc := 17) rfl de_PL_cost_17 hJ
set_option maxHeartbeats 4000000 in
set_option maxRecDepth 100000 in
theorem tb_PL_cost_0 (l : Launch) (D : va_G) (E : Nat → ClassId) (B : Nat) (sa : (Nat → Nat) × Nat × (Nat → Int32)) (M0 M1 : mv_M) (r : Int64) (N : Nat) (M : mv_M) (v0 : Nat) (v1 : Int32) (v2 : Int32) (v3 : Int32) (hJ : jb_PL_cost_0 N M v0 v1 v2 v3 = some (r, M1)) : mv_G (xg l D E B sa) kd_PL_cost M0 M1 (some (.long r)) M 0 [(0, va_rf (some v0)), (1, .int v1), (2, .int v2), (3, .int v3)] [] := by
  unfold jb_PL_cost_0 at hJ
  refine mv_iload_n (pc := 0) (i := 1) de_PL_cost_0 rfl 1 rfl ?_
  obtain ⟨r1, Mm1, hz1, h1⟩ := mj_callE hJ
  refine mv_callS (pc := 1) (n := 1) (av := [.int v1]) (rest := []) de_PL_cost_1 (cm_Ta_isColumn l D E B sa N M v1 _ _ hz1) wt_3_91 wt_3_92 wt_1_4 wt_3_93 ⟨by decide, by decide, by decide +kernel⟩ rfl ⟨Nat.le_of_ble_eq_true rfl, Nat.le_of_ble_eq_true rfl⟩ (Nat.le_of_ble_eq_true rfl) rfl ?_
  refine mv_if_eq (pc := 4) (tgt := 14) de_PL_cost_4 (by decide) h1 (fun hc4 h4 => ?_) (fun hc4 h4 => ?_)
  · exact mv_sub [] rfl (tb_PL_cost_14 l D E B sa M0 M1 r N Mm1 h4)
  · refine mv_iload_n (pc := 7) (i := 3) de_PL_cost_7 rfl 3 rfl ?_
    obtain ⟨r8, Mm8, hz8, h8⟩ := mj_callE h4
    refine mv_callS (pc := 8) (n := 1) (av := [.int v3]) (rest := []) de_PL_cost_8 (cm_PL_isSide l D E B sa N Mm1 v3 _ _ hz8) wt_2_165 wt_2_166 wt_1_1 wt_2_167 ⟨by decide, by decide, by decide +kernel⟩ rfl ⟨Nat.le_of_ble_eq_true rfl, Nat.le_of_ble_eq_true rfl⟩ (Nat.le_of_ble_eq_true rfl) rfl ?_
    refine mv_if_ne (pc := 11) (tgt := 18) de_PL_cost_11 (by decide) h8 (fun hc11 h11 => ?_) (fun hc11 h11 => ?_)
    · exact mv_sub [] rfl (tb_PL_cost_14 l D E B sa M0 M1 r N Mm8 h11)
    · refine mv_aload_n (pc := 18) (i := 0) de_PL_cost_18 rfl 0 rfl ?_
      refine mv_getR (pc := 19) (f := 1) (kc_0 l D E B sa) (Nat.le_of_ble_eq_true rfl) wt_1_147 de_PL_cost_19 h11 (fun x19 e19 h19 => ?_)
      refine mv_iload_n (pc := 22) (i := 1) de_PL_cost_22 rfl 1 rfl ?_
      refine mv_iload_n (pc := 23) (i := 2) de_PL_cost_23 rfl 2 rfl ?_
      obtain ⟨a24, ha, h24a⟩ := mj_bindE h19
      subst ha
      obtain ⟨hi24, h24o⟩ := mj_obE h24a
      obtain ⟨r24, Mm24, hz24, h24⟩ := mj_callE h24o
      refine mv_callV (pc := 24) (n := 2) (av := [.int v1, .int v2]) (rest := []) de_PL_cost_24 (kc_6 l D E B sa) hi24 (cm_Ta_costOf l D E B sa N Mm8 a24 v1 v2 _ _ hz24) wt_3_117 wt_3_99 wt_3_100 wt_1_4 wt_3_101 ⟨by decide, by decide, by decide +kernel⟩ rfl ⟨Nat.le_of_ble_eq_true rfl, Nat.le_of_ble_eq_true rfl⟩ (Nat.le_of_ble_eq_true rfl) rfl ?_
      refine mv_iload_n (pc := 27) (i := 3) de_PL_cost_27 rfl 3 rfl ?_
      obtain ⟨r28, Mm28, hz28, h28⟩ := mj_callE h24
      refine mv_callS (pc := 28) (n := 2) (av := [.long r24, .int v3]) (rest := []) de_PL_cost_28 (cm_Fr_sideOf l D E B sa N Mm24 r24 v3 _ _ hz28) wt_3_4 wt_3_5 wt_1_3 wt_3_6 ⟨by decide, by decide, by decide +kernel⟩ rfl ⟨Nat.le_of_ble_eq_true rfl, Nat.le_of_ble_eq_true rfl⟩ (Nat.le_of_ble_eq_true rfl) rfl ?_
      exact mv_lret (pc := 31) rfl de_PL_cost_31 h28
theorem cm_PL_cost (l : Launch) (D : va_G) (E : Nat → ClassId) (B : Nat) (sa : (Nat → Nat) × Nat × (Nat → Int32)) (N : Nat) (M : mv_M) (v0 : Nat) (v1 : Int32) (v2 : Int32) (v3 : Int32) (r : Int64) (M1 : mv_M) (hJ : jf_PL_cost N M v0 v1 v2 v3 = some (r, M1)) : mv_Met (xg l D E B sa) yn_PL_cost cd_PL_cost 4 (some .long) 3 81 [va_rf (some v0), .int v1, .int v2, .int v3] M (some (.long r)) M1 :=
  mv_enter (by decide) (Nat.le_of_ble_eq_true rfl) (mv_sub (lv := [(0, va_rf (some v0)), (1, .int v1), (2, .int v2), (3, .int v3)]) [0, 1, 2, 3] rfl (tb_PL_cost_0 l D E B sa M M1 r N M v0 v1 v2 v3 hJ))
/-! ===== PlainLearner$Table.bestColumn()I ===== -/
abbrev kd_Ta_bestColumn : mv_Kd := (cd_Ta_bestColumn, 7, "PlainLearner$Table", "bestColumn", (some .int), 4, 109)
theorem de_Ta_bestColumn_0 : decode cd_Ta_bestColumn 0 = .ok (.bipush (-2), 2) := by decide +kernel
theorem de_Ta_bestColumn_2 : decode cd_Ta_bestColumn 2 = .ok (.istore_n 1, 1) := by decide +kernel
theorem de_Ta_bestColumn_3 : decode cd_Ta_bestColumn 3 = .ok (.lconst 0, 1) := by decide +kernel
theorem de_Ta_bestColumn_4 : decode cd_Ta_bestColumn 4 = .ok (.lstore_n 2, 1) := by decide +kernel
theorem de_Ta_bestColumn_5 : decode cd_Ta_bestColumn 5 = .ok (.iconst 0, 1) := by decide +kernel
theorem de_Ta_bestColumn_6 : decode cd_Ta_bestColumn 6 = .ok (.istore 4, 2) := by decide +kernel
theorem de_Ta_bestColumn_8 : decode cd_Ta_bestColumn 8 = .ok (.iload 4, 2) := by decide +kernel
theorem de_Ta_bestColumn_10 : decode cd_Ta_bestColumn 10 = .ok (.iconst 4, 1) := by decide +kernel
theorem de_Ta_bestColumn_11 : decode cd_Ta_bestColumn 11 = .ok (.if_icmp .ge 38, 3) := by decide +kernel
theorem de_Ta_bestColumn_14 : decode cd_Ta_bestColumn 14 = .ok (.aload_n 0, 1) := by decide +kernel
theorem de_Ta_bestColumn_15 : decode cd_Ta_bestColumn 15 = .ok (.iload 4, 2) := by decide +kernel
theorem de_Ta_bestColumn_17 : decode cd_Ta_bestColumn 17 = .ok (.aload_n 0, 1) := by decide +kernel
theorem de_Ta_bestColumn_18 : decode cd_Ta_bestColumn 18 = .ok (.iload 4, 2) := by decide +kernel
theorem de_Ta_bestColumn_20 : decode cd_Ta_bestColumn 20 = .ok (.invokevirtual 56, 3) := by decide +kernel
theorem de_Ta_bestColumn_23 : decode cd_Ta_bestColumn 23 = .ok (.invokevirtual 48, 3) := by decide +kernel
theorem de_Ta_bestColumn_26 : decode cd_Ta_bestColumn 26 = .ok (.lstore 5, 2) := by decide +kernel
theorem de_Ta_bestColumn_28 : decode cd_Ta_bestColumn 28 = .ok (.lload 5, 2) := by decide +kernel
theorem de_Ta_bestColumn_30 : decode cd_Ta_bestColumn 30 = .ok (.lload_n 2, 1) := by decide +kernel
theorem de_Ta_bestColumn_31 : decode cd_Ta_bestColumn 31 = .ok (.invokestatic 52, 3) := by decide +kernel
theorem de_Ta_bestColumn_34 : decode cd_Ta_bestColumn 34 = .ok (.ifCond .eq 9, 3) := by decide +kernel
theorem de_Ta_bestColumn_37 : decode cd_Ta_bestColumn 37 = .ok (.iload 4, 2) := by decide +kernel
theorem de_Ta_bestColumn_39 : decode cd_Ta_bestColumn 39 = .ok (.istore_n 1, 1) := by decide +kernel
theorem de_Ta_bestColumn_40 : decode cd_Ta_bestColumn 40 = .ok (.lload 5, 2) := by decide +kernel
theorem de_Ta_bestColumn_42 : decode cd_Ta_bestColumn 42 = .ok (.lstore_n 2, 1) := by decide +kernel
theorem de_Ta_bestColumn_43 : decode cd_Ta_bestColumn 43 = .ok (.iinc 4 1, 3) := by decide +kernel
theorem de_Ta_bestColumn_46 : decode cd_Ta_bestColumn 46 = .ok (.goto (-38), 3) := by decide +kernel
theorem de_Ta_bestColumn_49 : decode cd_Ta_bestColumn 49 = .ok (.iload_n 1, 1) := by decide +kernel
theorem de_Ta_bestColumn_50 : decode cd_Ta_bestColumn 50 = .ok (.ireturn, 1) := by decide +kernel
def jb_Ta_bestColumn_43 (N : Nat) (k8 : mv_M → Nat → Int32 → Int64 → Int32 → Option (Int32 × mv_M)) (M : mv_M) (v0 : Nat) (v1 : Int32) (v2 : Int64) (v4 : Int32) : Option (Int32 × mv_M) :=
  k8 M v0 v1 v2 (v4 + 1)
def jb_Ta_bestColumn_8 (N : Nat) : Nat → mv_M → Nat → Int32 → Int64 → Int32 → Option (Int32 × mv_M)
  | 0, _, _, _, _, _ => none
  | n + 1, M, v0, v1, v2, v4 =>
    if 4 ≤ v4 then (some (v1, M)) else
    mj_ob M v0 6 <|
    mj_call (jf_Ta_bestCutOf N M v0 v4) fun r20 Mm20 =>
    mj_ob Mm20 v0 6 <|
    mj_call (jf_Ta_costOf N Mm20 v0 v4 r20) fun r23 Mm23 =>
    mj_call (jf_Ta_isLess N Mm23 r23 v2) fun r31 Mm31 =>
    if r31 = 0 then (jb_Ta_bestColumn_43 N (jb_Ta_bestColumn_8 N n) Mm31 v0 v1 v2 v4) else
    jb_Ta_bestColumn_43 N (jb_Ta_bestColumn_8 N n) Mm31 v0 v4 r23 v4
def jb_Ta_bestColumn_0 (N : Nat) (M : mv_M) (v0 : Nat) : Option (Int32 × mv_M) :=
  jb_Ta_bestColumn_8 N N M v0 (-2) 0 0
def jf_Ta_bestColumn (N : Nat) (M : mv_M) (v0 : Nat) : Option (Int32 × mv_M) := jb_Ta_bestColumn_0 N M v0
set_option maxHeartbeats 4000000 in
set_option maxRecDepth 100000 in
theorem tb_Ta_bestColumn_43 (l : Launch) (D : va_G) (E : Nat → ClassId) (B : Nat) (sa : (Nat → Nat) × Nat × (Nat → Int32)) (M0 M1 : mv_M) (r : Int32) (N : Nat) (k8 : mv_M → Nat → Int32 → Int64 → Int32 → Option (Int32 × mv_M)) (hk8 : ∀ (M : mv_M) (v0 : Nat) (v1 : Int32) (v2 : Int64) (v4 : Int32), k8 M v0 v1 v2 v4 = some (r, M1) → mv_G (xg l D E B sa) kd_Ta_bestColumn M0 M1 (some (.int r)) M 8 [(0, va_rf (some v0)), (1, .int v1), (2, .long v2), (4, .int v4)] []) (M : mv_M) (v0 : Nat) (v1 : Int32) (v2 : Int64) (v4 : Int32) (hJ : jb_Ta_bestColumn_43 N k8 M v0 v1 v2 v4 = some (r, M1)) : mv_G (xg l D E B sa) kd_Ta_bestColumn M0 M1 (some (.int r)) M 43 [(0, va_rf (some v0)), (1, .int v1), (2, .long v2), (4, .int v4)] [] := by
  unfold jb_Ta_bestColumn_43 at hJ
  refine mv_iinc (pc := 43) (v := (v4 + 1)) (lv' := [(4, .int (v4 + 1)), (0, va_rf (some v0)), (1, .int v1), (2, .long v2)]) de_Ta_bestColumn_43 3 rfl rfl (Nat.le_of_ble_eq_true rfl) rfl ?_
  refine mv_goto (pc := 46) (tgt := 8) de_Ta_bestColumn_46 (by decide) ?_
  exact mv_sub [1, 2, 3, 0] rfl (hk8 M v0 v1 v2 (v4 + 1) hJ)
set_option maxHeartbeats 4000000 in
set_option maxRecDepth 100000 in
theorem tb_Ta_bestColumn_8 (l : Launch) (D : va_G) (E : Nat → ClassId) (B : Nat) (sa : (Nat → Nat) × Nat × (Nat → Int32)) (M0 M1 : mv_M) (r : Int32) (N : Nat) : ∀ (n : Nat) (M : mv_M) (v0 : Nat) (v1 : Int32) (v2 : Int64) (v4 : Int32) (hJ : jb_Ta_bestColumn_8 N n M v0 v1 v2 v4 = some (r, M1)), mv_G (xg l D E B sa) kd_Ta_bestColumn M0 M1 (some (.int r)) M 8 [(0, va_rf (some v0)), (1, .int v1), (2, .long v2), (4, .int v4)] [] := by
  intro n
  induction n with
  | zero => intro M v0 v1 v2 v4 hJ; cases hJ
  | succ n ih =>
    intro M v0 v1 v2 v4 hJ
    rw [jb_Ta_bestColumn_8] at hJ
    refine mv_iload (pc := 8) de_Ta_bestColumn_8 3 rfl ?_
    refine mv_iconst (pc := 10) (v := 4) de_Ta_bestColumn_10 (by decide) ?_
    refine mv_icmp_ge (pc := 11) (tgt := 49) de_Ta_bestColumn_11 (by decide) hJ (fun hc11 h11 => ?_) (fun hc11 h11 => ?_)
    · refine mv_iload_n (pc := 49) (i := 1) de_Ta_bestColumn_49 rfl 1 rfl ?_
      exact mv_iret (pc := 50) rfl de_Ta_bestColumn_50 h11
    · refine mv_aload_n (pc := 14) (i := 0) de_Ta_bestColumn_14 rfl 0 rfl ?_
      refine mv_iload (pc := 15) de_Ta_bestColumn_15 3 rfl ?_
      refine mv_aload_n (pc := 17) (i := 0) de_Ta_bestColumn_17 rfl 0 rfl ?_
      refine mv_iload (pc := 18) de_Ta_bestColumn_18 3 rfl ?_
      obtain ⟨hi20, h20o⟩ := mj_obE h11
      obtain ⟨r20, Mm20, hz20, h20⟩ := mj_callE h20o
      refine mv_callV (pc := 20) (n := 1) (av := [.int v4]) (rest := [.int v4, va_rf (some v0)]) de_Ta_bestColumn_20 (kc_6 l D E B sa) hi20 (cm_Ta_bestCutOf l D E B sa N M v0 v4 _ _ hz20) wt_3_126 wt_3_95 wt_3_96 wt_1_4 wt_3_97 ⟨by decide, by decide, by decide +kernel⟩ rfl ⟨Nat.le_of_ble_eq_true rfl, Nat.le_of_ble_eq_true rfl⟩ (Nat.le_of_ble_eq_true rfl) rfl ?_
      obtain ⟨hi23, h23o⟩ := mj_obE h20
      obtain ⟨r23, Mm23, hz23, h23⟩ := mj_callE h23o
      refine mv_callV (pc := 23) (n := 2) (av := [.int v4, .int r20]) (rest := []) de_Ta_bestColumn_23 (kc_6 l D E B sa) hi23 (cm_Ta_costOf l D E B sa N Mm20 v0 v4 r20 _ _ hz23) wt_3_98 wt_3_99 wt_3_100 wt_1_4 wt_3_101 ⟨by decide, by decide, by decide +kernel⟩ rfl ⟨Nat.le_of_ble_eq_true rfl, Nat.le_of_ble_eq_true rfl⟩ (Nat.le_of_ble_eq_true rfl) rfl ?_
      refine mv_lstore (pc := 26) (lv' := [(5, .long r23), (0, va_rf (some v0)), (1, .int v1), (2, .long v2), (4, .int v4)]) de_Ta_bestColumn_26 (Nat.le_of_ble_eq_true rfl) rfl ?_
      refine mv_lload (pc := 28) de_Ta_bestColumn_28 0 rfl ?_
      refine mv_lload_n (pc := 30) (i := 2) de_Ta_bestColumn_30 rfl 3 rfl ?_
      obtain ⟨r31, Mm31, hz31, h31⟩ := mj_callE h23
      refine mv_callS (pc := 31) (n := 2) (av := [.long r23, .long v2]) (rest := []) de_Ta_bestColumn_31 (cm_Ta_isLess l D E B sa N Mm23 r23 v2 _ _ hz31) wt_3_109 wt_3_110 wt_1_4 wt_3_111 ⟨by decide, by decide, by decide +kernel⟩ rfl ⟨Nat.le_of_ble_eq_true rfl, Nat.le_of_ble_eq_true rfl⟩ (Nat.le_of_ble_eq_true rfl) rfl ?_
      refine mv_if_eq (pc := 34) (tgt := 43) de_Ta_bestColumn_34 (by decide) h31 (fun hc34 h34 => ?_) (fun hc34 h34 => ?_)
      · exact mv_sub [1, 2, 3, 4] rfl (tb_Ta_bestColumn_43 l D E B sa M0 M1 r N (jb_Ta_bestColumn_8 N n) ih Mm31 v0 v1 v2 v4 h34)
      · refine mv_iload (pc := 37) de_Ta_bestColumn_37 4 rfl ?_
        refine mv_istore_n (pc := 39) (i := 1) (lv' := [(1, .int v4), (5, .long r23), (0, va_rf (some v0)), (2, .long v2), (4, .int v4)]) de_Ta_bestColumn_39 rfl (Nat.le_of_ble_eq_true rfl) rfl ?_
        refine mv_lload (pc := 40) de_Ta_bestColumn_40 1 rfl ?_
        refine mv_lstore_n (pc := 42) (i := 2) (lv' := [(2, .long r23), (1, .int v4), (5, .long r23), (0, va_rf (some v0)), (4, .int v4)]) de_Ta_bestColumn_42 rfl (Nat.le_of_ble_eq_true rfl) rfl ?_
        exact mv_sub [3, 1, 0, 4] rfl (tb_Ta_bestColumn_43 l D E B sa M0 M1 r N (jb_Ta_bestColumn_8 N n) ih Mm31 v0 v4 r23 v4 h34)
set_option maxHeartbeats 4000000 in
set_option maxRecDepth 100000 in
theorem tb_Ta_bestColumn_0 (l : Launch) (D : va_G) (E : Nat → ClassId) (B : Nat) (sa : (Nat → Nat) × Nat × (Nat → Int32)) (M0 M1 : mv_M) (r : Int32) (N : Nat) (M : mv_M) (v0 : Nat) (hJ : jb_Ta_bestColumn_0 N M v0 = some (r, M1)) : mv_G (xg l D E B sa) kd_Ta_bestColumn M0 M1 (some (.int r)) M 0 [(0, va_rf (some v0))] [] := by
  unfold jb_Ta_bestColumn_0 at hJ
  refine mv_bipush (pc := 0) (v := (-2)) de_Ta_bestColumn_0 (by decide) ?_
  refine mv_istore_n (pc := 2) (i := 1) (lv' := [(1, .int (-2)), (0, va_rf (some v0))]) de_Ta_bestColumn_2 rfl (Nat.le_of_ble_eq_true rfl) rfl ?_
  refine mv_lconst (pc := 3) (v := 0) de_Ta_bestColumn_3 (by decide) ?_
  refine mv_lstore_n (pc := 4) (i := 2) (lv' := [(2, .long 0), (1, .int (-2)), (0, va_rf (some v0))]) de_Ta_bestColumn_4 rfl (Nat.le_of_ble_eq_true rfl) rfl ?_
  refine mv_iconst (pc := 5) (v := 0) de_Ta_bestColumn_5 (by decide) ?_
  refine mv_istore (pc := 6) (lv' := [(4, .int 0), (2, .long 0), (1, .int (-2)), (0, va_rf (some v0))]) de_Ta_bestColumn_6 (Nat.le_of_ble_eq_true rfl) rfl ?_
  exact mv_sub [3, 2, 1, 0] rfl (tb_Ta_bestColumn_8 l D E B sa M0 M1 r N N M v0 (-2) 0 0 hJ)
theorem cm_Ta_bestColumn (l : Launch) (D : va_G) (E : Nat → ClassId) (B : Nat) (sa : (Nat → Nat) × Nat × (Nat → Int32)) (N : Nat) (M : mv_M) (v0 : Nat) (r : Int32) (M1 : mv_M) (hJ : jf_Ta_bestColumn N M v0 = some (r, M1)) : mv_Met (xg l D E B sa) yn_Ta_bestColumn cd_Ta_bestColumn 7 (some .int) 4 109 [va_rf (some v0)] M (some (.int r)) M1 :=
  mv_enter (by decide) (Nat.le_of_ble_eq_true rfl) (mv_sub (lv := [(0, va_rf (some v0))]) [0] rfl (tb_Ta_bestColumn_0 l D E B sa M M1 r N M v0 hJ))
/-! ===== PlainLearner.best()I ===== -/
abbrev kd_PL_best : mv_Kd := (cd_PL_best, 1, "PlainLearner", "best", (some .int), 5, 135)
theorem de_PL_best_0 : decode cd_PL_best 0 = .ok (.aload_n 0, 1) := by decide +kernel
theorem de_PL_best_1 : decode cd_PL_best 1 = .ok (.getfield 19, 3) := by decide +kernel
theorem de_PL_best_4 : decode cd_PL_best 4 = .ok (.invokevirtual 135, 3) := by decide +kernel
theorem de_PL_best_7 : decode cd_PL_best 7 = .ok (.ireturn, 1) := by decide +kernel
def jb_PL_best_0 (N : Nat) (M : mv_M) (v0 : Nat) : Option (Int32 × mv_M) :=
  Option.bind (mj_getR M v0 0 1) fun x1 =>
  Option.bind x1 fun a4 =>
  mj_ob M a4 6 <|
  mj_call (jf_Ta_bestColumn N M a4) fun r4 Mm4 =>
  some (r4, Mm4)
def jf_PL_best (N : Nat) (M : mv_M) (v0 : Nat) : Option (Int32 × mv_M) := jb_PL_best_0 N M v0
set_option maxHeartbeats 4000000 in
set_option maxRecDepth 100000 in
theorem tb_PL_best_0 (l : Launch) (D : va_G) (E : Nat → ClassId) (B : Nat) (sa : (Nat → Nat) × Nat × (Nat → Int32)) (M0 M1 : mv_M) (r : Int32) (N : Nat) (M : mv_M) (v0 : Nat) (hJ : jb_PL_best_0 N M v0 = some (r, M1)) : mv_G (xg l D E B sa) kd_PL_best M0 M1 (some (.int r)) M 0 [(0, va_rf (some v0))] [] := by
  unfold jb_PL_best_0 at hJ
  refine mv_aload_n (pc := 0) (i := 0) de_PL_best_0 rfl 0 rfl ?_
  refine mv_getR (pc := 1) (f := 1) (kc_0 l D E B sa) (Nat.le_of_ble_eq_true rfl) wt_1_147 de_PL_best_1 hJ (fun x1 e1 h1 => ?_)
  obtain ⟨a4, ha, h4a⟩ := mj_bindE h1
  subst ha
  obtain ⟨hi4, h4o⟩ := mj_obE h4a
  obtain ⟨r4, Mm4, hz4, h4⟩ := mj_callE h4o
  refine mv_callV (pc := 4) (n := 0) (av := []) (rest := []) de_PL_best_4 (kc_6 l D E B sa) hi4 (cm_Ta_bestColumn l D E B sa N M a4 _ _ hz4) wt_3_122 wt_3_123 wt_3_124 wt_1_4 wt_3_125 ⟨by decide, by decide, by decide +kernel⟩ rfl ⟨Nat.le_of_ble_eq_true rfl, Nat.le_of_ble_eq_true rfl⟩ (Nat.le_of_ble_eq_true rfl) rfl ?_
  exact mv_iret (pc := 7) rfl de_PL_best_7 h4
theorem cm_PL_best (l : Launch) (D : va_G) (E : Nat → ClassId) (B : Nat) (sa : (Nat → Nat) × Nat × (Nat → Int32)) (N : Nat) (M : mv_M) (v0 : Nat) (r : Int32) (M1 : mv_M) (hJ : jf_PL_best N M v0 = some (r, M1)) : mv_Met (xg l D E B sa) yn_PL_best cd_PL_best 1 (some .int) 5 135 [va_rf (some v0)] M (some (.int r)) M1 :=
  mv_enter (by decide) (Nat.le_of_ble_eq_true rfl) (mv_sub (lv := [(0, va_rf (some v0))]) [0] rfl (tb_PL_best_0 l D E B sa M M1 r N M v0 hJ))
/-! ===== PlainLearner$Table.dropAll()I ===== -/
abbrev kd_Ta_dropAll : mv_Kd := (cd_Ta_dropAll, 2, "PlainLearner$Table", "dropAll", (some .int), 0, 0)
theorem de_Ta_dropAll_0 : decode cd_Ta_dropAll 0 = .ok (.aload_n 0, 1) := by decide +kernel
theorem de_Ta_dropAll_1 : decode cd_Ta_dropAll 1 = .ok (.getfield 28, 3) := by decide +kernel
theorem de_Ta_dropAll_4 : decode cd_Ta_dropAll 4 = .ok (.istore_n 1, 1) := by decide +kernel
theorem de_Ta_dropAll_5 : decode cd_Ta_dropAll 5 = .ok (.aload_n 0, 1) := by decide +kernel
theorem de_Ta_dropAll_6 : decode cd_Ta_dropAll 6 = .ok (.iconst 0, 1) := by decide +kernel
theorem de_Ta_dropAll_7 : decode cd_Ta_dropAll 7 = .ok (.putfield 28, 3) := by decide +kernel
theorem de_Ta_dropAll_10 : decode cd_Ta_dropAll 10 = .ok (.iload_n 1, 1) := by decide +kernel
theorem de_Ta_dropAll_11 : decode cd_Ta_dropAll 11 = .ok (.ireturn, 1) := by decide +kernel
def jb_Ta_dropAll_0 (N : Nat) (M : mv_M) (v0 : Nat) : Option (Int32 × mv_M) :=
  Option.bind (mj_getI M v0 6 4) fun x1 =>
  Option.bind (mj_put M v0 6 4 (.int 0)) fun Mm7 =>
  some (x1, Mm7)
def jf_Ta_dropAll (N : Nat) (M : mv_M) (v0 : Nat) : Option (Int32 × mv_M) := jb_Ta_dropAll_0 N M v0
set_option maxHeartbeats 4000000 in
set_option maxRecDepth 100000 in
theorem tb_Ta_dropAll_0 (l : Launch) (D : va_G) (E : Nat → ClassId) (B : Nat) (sa : (Nat → Nat) × Nat × (Nat → Int32)) (M0 M1 : mv_M) (r : Int32) (N : Nat) (M : mv_M) (v0 : Nat) (hJ : jb_Ta_dropAll_0 N M v0 = some (r, M1)) : mv_G (xg l D E B sa) kd_Ta_dropAll M0 M1 (some (.int r)) M 0 [(0, va_rf (some v0))] [] := by
  unfold jb_Ta_dropAll_0 at hJ
  refine mv_aload_n (pc := 0) (i := 0) de_Ta_dropAll_0 rfl 0 rfl ?_
  refine mv_getI (pc := 1) (f := 4) (kc_6 l D E B sa) (Nat.le_of_ble_eq_true rfl) wt_1_70 de_Ta_dropAll_1 hJ (fun x1 e1 h1 => ?_)
  refine mv_istore_n (pc := 4) (i := 1) (lv' := [(1, .int x1), (0, va_rf (some v0))]) de_Ta_dropAll_4 rfl (Nat.le_of_ble_eq_true rfl) rfl ?_
  refine mv_aload_n (pc := 5) (i := 0) de_Ta_dropAll_5 rfl 1 rfl ?_
  refine mv_iconst (pc := 6) (v := 0) de_Ta_dropAll_6 (by decide) ?_
  refine mv_put (pc := 7) (f := 4) (kc_6 l D E B sa) (Nat.le_of_ble_eq_true rfl) wt_1_70 rfl rfl rfl de_Ta_dropAll_7 h1 (fun Mm7 e7 h7 => ?_)
  refine mv_iload_n (pc := 10) (i := 1) de_Ta_dropAll_10 rfl 0 rfl ?_
  exact mv_iret (pc := 11) rfl de_Ta_dropAll_11 h7
theorem cm_Ta_dropAll (l : Launch) (D : va_G) (E : Nat → ClassId) (B : Nat) (sa : (Nat → Nat) × Nat × (Nat → Int32)) (N : Nat) (M : mv_M) (v0 : Nat) (r : Int32) (M1 : mv_M) (hJ : jf_Ta_dropAll N M v0 = some (r, M1)) : mv_Met (xg l D E B sa) yn_Ta_dropAll cd_Ta_dropAll 2 (some .int) 0 0 [va_rf (some v0)] M (some (.int r)) M1 :=
  mv_enter (by decide) (Nat.le_of_ble_eq_true rfl) (mv_sub (lv := [(0, va_rf (some v0))]) [0] rfl (tb_Ta_dropAll_0 l D E B sa M M1 r N M v0 hJ))
/-! ===== PlainLearner.clear()I ===== -/
abbrev kd_PL_clear : mv_Kd := (cd_PL_clear, 1, "PlainLearner", "clear", (some .int), 1, 21)
theorem de_PL_clear_0 : decode cd_PL_clear 0 = .ok (.aload_n 0, 1) := by decide +kernel
theorem de_PL_clear_1 : decode cd_PL_clear 1 = .ok (.getfield 19, 3) := by decide +kernel
theorem de_PL_clear_4 : decode cd_PL_clear 4 = .ok (.invokevirtual 139, 3) := by decide +kernel
theorem de_PL_clear_7 : decode cd_PL_clear 7 = .ok (.ireturn, 1) := by decide +kernel
def jb_PL_clear_0 (N : Nat) (M : mv_M) (v0 : Nat) : Option (Int32 × mv_M) :=
  Option.bind (mj_getR M v0 0 1) fun x1 =>
  Option.bind x1 fun a4 =>
  mj_ob M a4 6 <|
  mj_call (jf_Ta_dropAll N M a4) fun r4 Mm4 =>
  some (r4, Mm4)
def jf_PL_clear (N : Nat) (M : mv_M) (v0 : Nat) : Option (Int32 × mv_M) := jb_PL_clear_0 N M v0
set_option maxHeartbeats 4000000 in
set_option maxRecDepth 100000 in
theorem tb_PL_clear_0 (l : Launch) (D : va_G) (E : Nat → ClassId) (B : Nat) (sa : (Nat → Nat) × Nat × (Nat → Int32)) (M0 M1 : mv_M) (r : Int32) (N : Nat) (M : mv_M) (v0 : Nat) (hJ : jb_PL_clear_0 N M v0 = some (r, M1)) : mv_G (xg l D E B sa) kd_PL_clear M0 M1 (some (.int r)) M 0 [(0, va_rf (some v0))] [] := by
  unfold jb_PL_clear_0 at hJ
  refine mv_aload_n (pc := 0) (i := 0) de_PL_clear_0 rfl 0 rfl ?_
  refine mv_getR (pc := 1) (f := 1) (kc_0 l D E B sa) (Nat.le_of_ble_eq_true rfl) wt_1_147 de_PL_clear_1 hJ (fun x1 e1 h1 => ?_)
  obtain ⟨a4, ha, h4a⟩ := mj_bindE h1
  subst ha
  obtain ⟨hi4, h4o⟩ := mj_obE h4a
  obtain ⟨r4, Mm4, hz4, h4⟩ := mj_callE h4o
  refine mv_callV (pc := 4) (n := 0) (av := []) (rest := []) de_PL_clear_4 (kc_6 l D E B sa) hi4 (cm_Ta_dropAll l D E B sa N M a4 _ _ hz4) wt_3_131 wt_3_132 wt_3_133 wt_1_4 wt_3_134 ⟨by decide, by decide, by decide +kernel⟩ rfl ⟨Nat.le_of_ble_eq_true rfl, Nat.le_of_ble_eq_true rfl⟩ (Nat.le_of_ble_eq_true rfl) rfl ?_
  exact mv_iret (pc := 7) rfl de_PL_clear_7 h4
theorem cm_PL_clear (l : Launch) (D : va_G) (E : Nat → ClassId) (B : Nat) (sa : (Nat → Nat) × Nat × (Nat → Int32)) (N : Nat) (M : mv_M) (v0 : Nat) (r : Int32) (M1 : mv_M) (hJ : jf_PL_clear N M v0 = some (r, M1)) : mv_Met (xg l D E B sa) yn_PL_clear cd_PL_clear 1 (some .int) 1 21 [va_rf (some v0)] M (some (.int r)) M1 :=
  mv_enter (by decide) (Nat.le_of_ble_eq_true rfl) (mv_sub (lv := [(0, va_rf (some v0))]) [0] rfl (tb_PL_clear_0 l D E B sa M M1 r N M v0 hJ))
/-! ===== PlainLearner$Players.begin(I)I ===== -/
abbrev kd_Py_begin : mv_Kd := (cd_Py_begin, 2, "PlainLearner$Players", "begin", (some .int), 1, 23)
theorem de_Py_begin_0 : decode cd_Py_begin 0 = .ok (.iload_n 1, 1) := by decide +kernel
theorem de_Py_begin_1 : decode cd_Py_begin 1 = .ok (.ifCond .lt 9, 3) := by decide +kernel
theorem de_Py_begin_4 : decode cd_Py_begin 4 = .ok (.iload_n 1, 1) := by decide +kernel
theorem de_Py_begin_5 : decode cd_Py_begin 5 = .ok (.bipush 8, 2) := by decide +kernel
theorem de_Py_begin_7 : decode cd_Py_begin 7 = .ok (.if_icmp .le 5, 3) := by decide +kernel
theorem de_Py_begin_10 : decode cd_Py_begin 10 = .ok (.iconst (-1), 1) := by decide +kernel
theorem de_Py_begin_11 : decode cd_Py_begin 11 = .ok (.ireturn, 1) := by decide +kernel
theorem de_Py_begin_12 : decode cd_Py_begin 12 = .ok (.aload_n 0, 1) := by decide +kernel
theorem de_Py_begin_13 : decode cd_Py_begin 13 = .ok (.iload_n 1, 1) := by decide +kernel
theorem de_Py_begin_14 : decode cd_Py_begin 14 = .ok (.putfield 15, 3) := by decide +kernel
theorem de_Py_begin_17 : decode cd_Py_begin 17 = .ok (.aload_n 0, 1) := by decide +kernel
theorem de_Py_begin_18 : decode cd_Py_begin 18 = .ok (.getfield 11, 3) := by decide +kernel
theorem de_Py_begin_21 : decode cd_Py_begin 21 = .ok (.iconst 0, 1) := by decide +kernel
theorem de_Py_begin_22 : decode cd_Py_begin 22 = .ok (.invokestatic 19, 3) := by decide +kernel
theorem de_Py_begin_25 : decode cd_Py_begin 25 = .ok (.iconst 0, 1) := by decide +kernel
theorem de_Py_begin_26 : decode cd_Py_begin 26 = .ok (.ireturn, 1) := by decide +kernel
def jb_Py_begin_10 (N : Nat) (M : mv_M) : Option (Int32 × mv_M) :=
  some ((-1), M)
def jb_Py_begin_0 (N : Nat) (M : mv_M) (v0 : Nat) (v1 : Int32) : Option (Int32 × mv_M) :=
  if v1 < 0 then (jb_Py_begin_10 N M) else
  if v1 ≤ 8 then (Option.bind (mj_put M v0 3 1 (.int v1)) fun Mm14 =>
  Option.bind (mj_getR Mm14 v0 3 0) fun x18 =>
  mj_call (jf_Ja_fill0 N Mm14 x18 0) fun r22 Mm22 =>
  some (0, Mm22)) else
  jb_Py_begin_10 N M
def jf_Py_begin (N : Nat) (M : mv_M) (v0 : Nat) (v1 : Int32) : Option (Int32 × mv_M) := jb_Py_begin_0 N M v0 v1
set_option maxHeartbeats 4000000 in
set_option maxRecDepth 100000 in
theorem tb_Py_begin_10 (l : Launch) (D : va_G) (E : Nat → ClassId) (B : Nat) (sa : (Nat → Nat) × Nat × (Nat → Int32)) (M0 M1 : mv_M) (r : Int32) (N : Nat) (M : mv_M) (hJ : jb_Py_begin_10 N M = some (r, M1)) : mv_G (xg l D E B sa) kd_Py_begin M0 M1 (some (.int r)) M 10 [] [] := by
  unfold jb_Py_begin_10 at hJ
  refine mv_iconst (pc := 10) (v := (-1)) de_Py_begin_10 (by decide) ?_
  exact mv_iret (pc := 11) rfl de_Py_begin_11 hJ
set_option maxHeartbeats 4000000 in
set_option maxRecDepth 100000 in
theorem tb_Py_begin_0 (l : Launch) (D : va_G) (E : Nat → ClassId) (B : Nat) (sa : (Nat → Nat) × Nat × (Nat → Int32)) (M0 M1 : mv_M) (r : Int32) (N : Nat) (M : mv_M) (v0 : Nat) (v1 : Int32) (hJ : jb_Py_begin_0 N M v0 v1 = some (r, M1)) : mv_G (xg l D E B sa) kd_Py_begin M0 M1 (some (.int r)) M 0 [(0, va_rf (some v0)), (1, .int v1)] [] := by
  unfold jb_Py_begin_0 at hJ
  refine mv_iload_n (pc := 0) (i := 1) de_Py_begin_0 rfl 1 rfl ?_
  refine mv_if_lt (pc := 1) (tgt := 10) de_Py_begin_1 (by decide) hJ (fun hc1 h1 => ?_) (fun hc1 h1 => ?_)
  · exact mv_sub [] rfl (tb_Py_begin_10 l D E B sa M0 M1 r N M h1)
  · refine mv_iload_n (pc := 4) (i := 1) de_Py_begin_4 rfl 1 rfl ?_
    refine mv_bipush (pc := 5) (v := 8) de_Py_begin_5 (by decide) ?_
    refine mv_icmp_le (pc := 7) (tgt := 12) de_Py_begin_7 (by decide) h1 (fun hc7 h7 => ?_) (fun hc7 h7 => ?_)
    · refine mv_aload_n (pc := 12) (i := 0) de_Py_begin_12 rfl 0 rfl ?_
      refine mv_iload_n (pc := 13) (i := 1) de_Py_begin_13 rfl 1 rfl ?_
      refine mv_put (pc := 14) (f := 1) (kc_3 l D E B sa) (Nat.le_of_ble_eq_true rfl) wt_1_91 rfl rfl rfl de_Py_begin_14 h7 (fun Mm14 e14 h14 => ?_)
      refine mv_aload_n (pc := 17) (i := 0) de_Py_begin_17 rfl 0 rfl ?_
      refine mv_getR (pc := 18) (f := 0) (kc_3 l D E B sa) (Nat.le_of_ble_eq_true rfl) wt_1_90 de_Py_begin_18 h14 (fun x18 e18 h18 => ?_)
      refine mv_iconst (pc := 21) (v := 0) de_Py_begin_21 (by decide) ?_
      obtain ⟨r22, Mm22, hz22, h22⟩ := mj_callE h18
      refine mv_callS (pc := 22) (n := 2) (av := [va_rf x18, .int 0]) (rest := []) de_Py_begin_22 (cm_Ja_fill0 l D E B sa N Mm14 x18 0 _ _ hz22) wt_3_143 wt_3_103 wt_1_11 wt_3_104 ⟨by decide, by decide, by decide +kernel⟩ rfl ⟨Nat.le_of_ble_eq_true rfl, Nat.le_of_ble_eq_true rfl⟩ (Nat.le_of_ble_eq_true rfl) rfl ?_
      refine mv_iconst (pc := 25) (v := 0) de_Py_begin_25 (by decide) ?_
      exact mv_iret (pc := 26) rfl de_Py_begin_26 h22
    · exact mv_sub [] rfl (tb_Py_begin_10 l D E B sa M0 M1 r N M h7)
theorem cm_Py_begin (l : Launch) (D : va_G) (E : Nat → ClassId) (B : Nat) (sa : (Nat → Nat) × Nat × (Nat → Int32)) (N : Nat) (M : mv_M) (v0 : Nat) (v1 : Int32) (r : Int32) (M1 : mv_M) (hJ : jf_Py_begin N M v0 v1 = some (r, M1)) : mv_Met (xg l D E B sa) yn_Py_begin cd_Py_begin 2 (some .int) 1 23 [va_rf (some v0), .int v1] M (some (.int r)) M1 :=
  mv_enter (by decide) (Nat.le_of_ble_eq_true rfl) (mv_sub (lv := [(0, va_rf (some v0)), (1, .int v1)]) [0, 1] rfl (tb_Py_begin_0 l D E B sa M M1 r N M v0 v1 hJ))
/-! ===== PlainLearner.game(I)I ===== -/
abbrev kd_PL_game : mv_Kd := (cd_PL_game, 2, "PlainLearner", "game", (some .int), 2, 44)
theorem de_PL_game_0 : decode cd_PL_game 0 = .ok (.aload_n 0, 1) := by decide +kernel
theorem de_PL_game_1 : decode cd_PL_game 1 = .ok (.getfield 26, 3) := by decide +kernel
theorem de_PL_game_4 : decode cd_PL_game 4 = .ok (.iload_n 1, 1) := by decide +kernel
theorem de_PL_game_5 : decode cd_PL_game 5 = .ok (.invokevirtual 142, 3) := by decide +kernel
theorem de_PL_game_8 : decode cd_PL_game 8 = .ok (.ireturn, 1) := by decide +kernel
def jb_PL_game_0 (N : Nat) (M : mv_M) (v0 : Nat) (v1 : Int32) : Option (Int32 × mv_M) :=
  Option.bind (mj_getR M v0 0 2) fun x1 =>
  Option.bind x1 fun a5 =>
  mj_ob M a5 3 <|
  mj_call (jf_Py_begin N M a5 v1) fun r5 Mm5 =>
  some (r5, Mm5)
def jf_PL_game (N : Nat) (M : mv_M) (v0 : Nat) (v1 : Int32) : Option (Int32 × mv_M) := jb_PL_game_0 N M v0 v1
set_option maxHeartbeats 4000000 in
set_option maxRecDepth 100000 in
theorem tb_PL_game_0 (l : Launch) (D : va_G) (E : Nat → ClassId) (B : Nat) (sa : (Nat → Nat) × Nat × (Nat → Int32)) (M0 M1 : mv_M) (r : Int32) (N : Nat) (M : mv_M) (v0 : Nat) (v1 : Int32) (hJ : jb_PL_game_0 N M v0 v1 = some (r, M1)) : mv_G (xg l D E B sa) kd_PL_game M0 M1 (some (.int r)) M 0 [(0, va_rf (some v0)), (1, .int v1)] [] := by
  unfold jb_PL_game_0 at hJ
  refine mv_aload_n (pc := 0) (i := 0) de_PL_game_0 rfl 0 rfl ?_
  refine mv_getR (pc := 1) (f := 2) (kc_0 l D E B sa) (Nat.le_of_ble_eq_true rfl) wt_1_148 de_PL_game_1 hJ (fun x1 e1 h1 => ?_)
  refine mv_iload_n (pc := 4) (i := 1) de_PL_game_4 rfl 1 rfl ?_
  obtain ⟨a5, ha, h5a⟩ := mj_bindE h1
  subst ha
  obtain ⟨hi5, h5o⟩ := mj_obE h5a
  obtain ⟨r5, Mm5, hz5, h5⟩ := mj_callE h5o
  refine mv_callV (pc := 5) (n := 1) (av := [.int v1]) (rest := []) de_PL_game_5 (kc_3 l D E B sa) hi5 (cm_Py_begin l D E B sa N M a5 v1 _ _ hz5) wt_3_139 wt_3_140 wt_3_141 wt_1_5 wt_3_142 ⟨by decide, by decide, by decide +kernel⟩ rfl ⟨Nat.le_of_ble_eq_true rfl, Nat.le_of_ble_eq_true rfl⟩ (Nat.le_of_ble_eq_true rfl) rfl ?_
  exact mv_iret (pc := 8) rfl de_PL_game_8 h5
theorem cm_PL_game (l : Launch) (D : va_G) (E : Nat → ClassId) (B : Nat) (sa : (Nat → Nat) × Nat × (Nat → Int32)) (N : Nat) (M : mv_M) (v0 : Nat) (v1 : Int32) (r : Int32) (M1 : mv_M) (hJ : jf_PL_game N M v0 v1 = some (r, M1)) : mv_Met (xg l D E B sa) yn_PL_game cd_PL_game 2 (some .int) 2 44 [va_rf (some v0), .int v1] M (some (.int r)) M1 :=
  mv_enter (by decide) (Nat.le_of_ble_eq_true rfl) (mv_sub (lv := [(0, va_rf (some v0)), (1, .int v1)]) [0, 1] rfl (tb_PL_game_0 l D E B sa M M1 r N M v0 v1 hJ))
/-! ===== PlainLearner$Players.setWorth(II)I ===== -/
abbrev kd_Py_setWorth : mv_Kd := (cd_Py_setWorth, 4, "PlainLearner$Players", "setWorth", (some .int), 0, 0)
theorem de_Py_setWorth_0 : decode cd_Py_setWorth 0 = .ok (.iload_n 1, 1) := by decide +kernel
theorem de_Py_setWorth_1 : decode cd_Py_setWorth 1 = .ok (.iconst 1, 1) := by decide +kernel
theorem de_Py_setWorth_2 : decode cd_Py_setWorth 2 = .ok (.if_icmp .lt 27, 3) := by decide +kernel
theorem de_Py_setWorth_5 : decode cd_Py_setWorth 5 = .ok (.iload_n 1, 1) := by decide +kernel
theorem de_Py_setWorth_6 : decode cd_Py_setWorth 6 = .ok (.iconst 1, 1) := by decide +kernel
theorem de_Py_setWorth_7 : decode cd_Py_setWorth 7 = .ok (.aload_n 0, 1) := by decide +kernel
theorem de_Py_setWorth_8 : decode cd_Py_setWorth 8 = .ok (.getfield 15, 3) := by decide +kernel
theorem de_Py_setWorth_11 : decode cd_Py_setWorth 11 = .ok (.ishl, 1) := by decide +kernel
theorem de_Py_setWorth_12 : decode cd_Py_setWorth 12 = .ok (.if_icmp .ge 17, 3) := by decide +kernel
theorem de_Py_setWorth_15 : decode cd_Py_setWorth 15 = .ok (.iload_n 2, 1) := by decide +kernel
theorem de_Py_setWorth_16 : decode cd_Py_setWorth 16 = .ok (.sipush (-10000), 3) := by decide +kernel
theorem de_Py_setWorth_19 : decode cd_Py_setWorth 19 = .ok (.if_icmp .lt 10, 3) := by decide +kernel
theorem de_Py_setWorth_22 : decode cd_Py_setWorth 22 = .ok (.iload_n 2, 1) := by decide +kernel
theorem de_Py_setWorth_23 : decode cd_Py_setWorth 23 = .ok (.sipush 10000, 3) := by decide +kernel
theorem de_Py_setWorth_26 : decode cd_Py_setWorth 26 = .ok (.if_icmp .le 5, 3) := by decide +kernel
theorem de_Py_setWorth_29 : decode cd_Py_setWorth 29 = .ok (.iconst (-1), 1) := by decide +kernel
theorem de_Py_setWorth_30 : decode cd_Py_setWorth 30 = .ok (.ireturn, 1) := by decide +kernel
theorem de_Py_setWorth_31 : decode cd_Py_setWorth 31 = .ok (.aload_n 0, 1) := by decide +kernel
theorem de_Py_setWorth_32 : decode cd_Py_setWorth 32 = .ok (.getfield 11, 3) := by decide +kernel
theorem de_Py_setWorth_35 : decode cd_Py_setWorth 35 = .ok (.iload_n 1, 1) := by decide +kernel
theorem de_Py_setWorth_36 : decode cd_Py_setWorth 36 = .ok (.iaload, 1) := by decide +kernel
theorem de_Py_setWorth_37 : decode cd_Py_setWorth 37 = .ok (.istore_n 3, 1) := by decide +kernel
theorem de_Py_setWorth_38 : decode cd_Py_setWorth 38 = .ok (.aload_n 0, 1) := by decide +kernel
theorem de_Py_setWorth_39 : decode cd_Py_setWorth 39 = .ok (.getfield 11, 3) := by decide +kernel
theorem de_Py_setWorth_42 : decode cd_Py_setWorth 42 = .ok (.iload_n 1, 1) := by decide +kernel
theorem de_Py_setWorth_43 : decode cd_Py_setWorth 43 = .ok (.iload_n 2, 1) := by decide +kernel
theorem de_Py_setWorth_44 : decode cd_Py_setWorth 44 = .ok (.iastore, 1) := by decide +kernel
theorem de_Py_setWorth_45 : decode cd_Py_setWorth 45 = .ok (.iload_n 3, 1) := by decide +kernel
theorem de_Py_setWorth_46 : decode cd_Py_setWorth 46 = .ok (.ireturn, 1) := by decide +kernel
def jb_Py_setWorth_29 (N : Nat) (M : mv_M) : Option (Int32 × mv_M) :=
  some ((-1), M)
def jb_Py_setWorth_0 (N : Nat) (M : mv_M) (v0 : Nat) (v1 : Int32) (v2 : Int32) : Option (Int32 × mv_M) :=
  if v1 < 1 then (jb_Py_setWorth_29 N M) else
  Option.bind (mj_getI M v0 3 1) fun x8 =>
  if ((1 : Int32) <<< (x8 &&& 31)) ≤ v1 then (jb_Py_setWorth_29 N M) else
  if v2 < (-10000) then (jb_Py_setWorth_29 N M) else
  if v2 ≤ 10000 then (Option.bind (mj_getR M v0 3 0) fun x32 =>
  Option.bind x32 fun a36 =>
  Option.bind (mj_ild M a36 0 v1) fun x36 =>
  Option.bind (mj_getR M v0 3 0) fun x39 =>
  Option.bind x39 fun a44 =>
  Option.bind (mj_ist M a44 0 v1 v2) fun Mm44 =>
  some (x36, Mm44)) else
  jb_Py_setWorth_29 N M
def jf_Py_setWorth (N : Nat) (M : mv_M) (v0 : Nat) (v1 : Int32) (v2 : Int32) : Option (Int32 × mv_M) := jb_Py_setWorth_0 N M v0 v1 v2
set_option maxHeartbeats 4000000 in
set_option maxRecDepth 100000 in
theorem tb_Py_setWorth_29 (l : Launch) (D : va_G) (E : Nat → ClassId) (B : Nat) (sa : (Nat → Nat) × Nat × (Nat → Int32)) (M0 M1 : mv_M) (r : Int32) (N : Nat) (M : mv_M) (hJ : jb_Py_setWorth_29 N M = some (r, M1)) : mv_G (xg l D E B sa) kd_Py_setWorth M0 M1 (some (.int r)) M 29 [] [] := by
  unfold jb_Py_setWorth_29 at hJ
  refine mv_iconst (pc := 29) (v := (-1)) de_Py_setWorth_29 (by decide) ?_
  exact mv_iret (pc := 30) rfl de_Py_setWorth_30 hJ
set_option maxHeartbeats 4000000 in
set_option maxRecDepth 100000 in
theorem tb_Py_setWorth_0 (l : Launch) (D : va_G) (E : Nat → ClassId) (B : Nat) (sa : (Nat → Nat) × Nat × (Nat → Int32)) (M0 M1 : mv_M) (r : Int32) (N : Nat) (M : mv_M) (v0 : Nat) (v1 : Int32) (v2 : Int32) (hJ : jb_Py_setWorth_0 N M v0 v1 v2 = some (r, M1)) : mv_G (xg l D E B sa) kd_Py_setWorth M0 M1 (some (.int r)) M 0 [(0, va_rf (some v0)), (1, .int v1), (2, .int v2)] [] := by
  unfold jb_Py_setWorth_0 at hJ
  refine mv_iload_n (pc := 0) (i := 1) de_Py_setWorth_0 rfl 1 rfl ?_
  refine mv_iconst (pc := 1) (v := 1) de_Py_setWorth_1 (by decide) ?_
  refine mv_icmp_lt (pc := 2) (tgt := 29) de_Py_setWorth_2 (by decide) hJ (fun hc2 h2 => ?_) (fun hc2 h2 => ?_)
  · exact mv_sub [] rfl (tb_Py_setWorth_29 l D E B sa M0 M1 r N M h2)
  · refine mv_iload_n (pc := 5) (i := 1) de_Py_setWorth_5 rfl 1 rfl ?_
    refine mv_iconst (pc := 6) (v := 1) de_Py_setWorth_6 (by decide) ?_
    refine mv_aload_n (pc := 7) (i := 0) de_Py_setWorth_7 rfl 0 rfl ?_
    refine mv_getI (pc := 8) (f := 1) (kc_3 l D E B sa) (Nat.le_of_ble_eq_true rfl) wt_1_91 de_Py_setWorth_8 h2 (fun x8 e8 h8 => ?_)
    refine mv_ishl (pc := 11) de_Py_setWorth_11 ?_
    refine mv_icmp_ge (pc := 12) (tgt := 29) de_Py_setWorth_12 (by decide) h8 (fun hc12 h12 => ?_) (fun hc12 h12 => ?_)
    · exact mv_sub [] rfl (tb_Py_setWorth_29 l D E B sa M0 M1 r N M h12)
    · refine mv_iload_n (pc := 15) (i := 2) de_Py_setWorth_15 rfl 2 rfl ?_
      refine mv_sipush (pc := 16) (v := (-10000)) de_Py_setWorth_16 (by decide) ?_
      refine mv_icmp_lt (pc := 19) (tgt := 29) de_Py_setWorth_19 (by decide) h12 (fun hc19 h19 => ?_) (fun hc19 h19 => ?_)
      · exact mv_sub [] rfl (tb_Py_setWorth_29 l D E B sa M0 M1 r N M h19)
      · refine mv_iload_n (pc := 22) (i := 2) de_Py_setWorth_22 rfl 2 rfl ?_
        refine mv_sipush (pc := 23) (v := 10000) de_Py_setWorth_23 (by decide) ?_
        refine mv_icmp_le (pc := 26) (tgt := 31) de_Py_setWorth_26 (by decide) h19 (fun hc26 h26 => ?_) (fun hc26 h26 => ?_)
        · refine mv_aload_n (pc := 31) (i := 0) de_Py_setWorth_31 rfl 0 rfl ?_
          refine mv_getR (pc := 32) (f := 0) (kc_3 l D E B sa) (Nat.le_of_ble_eq_true rfl) wt_1_90 de_Py_setWorth_32 h26 (fun x32 e32 h32 => ?_)
          refine mv_iload_n (pc := 35) (i := 1) de_Py_setWorth_35 rfl 1 rfl ?_
          obtain ⟨a36, ha, h36a⟩ := mj_bindE h32
          subst ha
          refine mv_iald (pc := 36) (t := 0) rfl de_Py_setWorth_36 h36a (fun x36 e36 h36 => ?_)
          refine mv_istore_n (pc := 37) (i := 3) (lv' := [(3, .int x36), (0, va_rf (some v0)), (1, .int v1), (2, .int v2)]) de_Py_setWorth_37 rfl (Nat.le_of_ble_eq_true rfl) rfl ?_
          refine mv_aload_n (pc := 38) (i := 0) de_Py_setWorth_38 rfl 1 rfl ?_
          refine mv_getR (pc := 39) (f := 0) (kc_3 l D E B sa) (Nat.le_of_ble_eq_true rfl) wt_1_90 de_Py_setWorth_39 h36 (fun x39 e39 h39 => ?_)
          refine mv_iload_n (pc := 42) (i := 1) de_Py_setWorth_42 rfl 2 rfl ?_
          refine mv_iload_n (pc := 43) (i := 2) de_Py_setWorth_43 rfl 3 rfl ?_
          obtain ⟨a44, ha, h44a⟩ := mj_bindE h39
          subst ha
          refine mv_iast (pc := 44) (t := 0) rfl de_Py_setWorth_44 h44a (fun Mm44 e44 h44 => ?_)
          refine mv_iload_n (pc := 45) (i := 3) de_Py_setWorth_45 rfl 0 rfl ?_
          exact mv_iret (pc := 46) rfl de_Py_setWorth_46 h44
        · exact mv_sub [] rfl (tb_Py_setWorth_29 l D E B sa M0 M1 r N M h26)
theorem cm_Py_setWorth (l : Launch) (D : va_G) (E : Nat → ClassId) (B : Nat) (sa : (Nat → Nat) × Nat × (Nat → Int32)) (N : Nat) (M : mv_M) (v0 : Nat) (v1 : Int32) (v2 : Int32) (r : Int32) (M1 : mv_M) (hJ : jf_Py_setWorth N M v0 v1 v2 = some (r, M1)) : mv_Met (xg l D E B sa) yn_Py_setWorth cd_Py_setWorth 4 (some .int) 0 0 [va_rf (some v0), .int v1, .int v2] M (some (.int r)) M1 :=
  mv_enter (by decide) (Nat.le_of_ble_eq_true rfl) (mv_sub (lv := [(0, va_rf (some v0)), (1, .int v1), (2, .int v2)]) [0, 1, 2] rfl (tb_Py_setWorth_0 l D E B sa M M1 r N M v0 v1 v2 hJ))
/-! ===== PlainLearner.worth(II)I ===== -/
abbrev kd_PL_worth : mv_Kd := (cd_PL_worth, 3, "PlainLearner", "worth", (some .int), 1, 23)
theorem de_PL_worth_0 : decode cd_PL_worth 0 = .ok (.aload_n 0, 1) := by decide +kernel
theorem de_PL_worth_1 : decode cd_PL_worth 1 = .ok (.getfield 26, 3) := by decide +kernel
theorem de_PL_worth_4 : decode cd_PL_worth 4 = .ok (.iload_n 1, 1) := by decide +kernel
theorem de_PL_worth_5 : decode cd_PL_worth 5 = .ok (.iload_n 2, 1) := by decide +kernel
theorem de_PL_worth_6 : decode cd_PL_worth 6 = .ok (.invokevirtual 145, 3) := by decide +kernel
theorem de_PL_worth_9 : decode cd_PL_worth 9 = .ok (.ireturn, 1) := by decide +kernel
def jb_PL_worth_0 (N : Nat) (M : mv_M) (v0 : Nat) (v1 : Int32) (v2 : Int32) : Option (Int32 × mv_M) :=
  Option.bind (mj_getR M v0 0 2) fun x1 =>
  Option.bind x1 fun a6 =>
  mj_ob M a6 3 <|
  mj_call (jf_Py_setWorth N M a6 v1 v2) fun r6 Mm6 =>
  some (r6, Mm6)
def jf_PL_worth (N : Nat) (M : mv_M) (v0 : Nat) (v1 : Int32) (v2 : Int32) : Option (Int32 × mv_M) := jb_PL_worth_0 N M v0 v1 v2
set_option maxHeartbeats 4000000 in
set_option maxRecDepth 100000 in
theorem tb_PL_worth_0 (l : Launch) (D : va_G) (E : Nat → ClassId) (B : Nat) (sa : (Nat → Nat) × Nat × (Nat → Int32)) (M0 M1 : mv_M) (r : Int32) (N : Nat) (M : mv_M) (v0 : Nat) (v1 : Int32) (v2 : Int32) (hJ : jb_PL_worth_0 N M v0 v1 v2 = some (r, M1)) : mv_G (xg l D E B sa) kd_PL_worth M0 M1 (some (.int r)) M 0 [(0, va_rf (some v0)), (1, .int v1), (2, .int v2)] [] := by
  unfold jb_PL_worth_0 at hJ
  refine mv_aload_n (pc := 0) (i := 0) de_PL_worth_0 rfl 0 rfl ?_
  refine mv_getR (pc := 1) (f := 2) (kc_0 l D E B sa) (Nat.le_of_ble_eq_true rfl) wt_1_148 de_PL_worth_1 hJ (fun x1 e1 h1 => ?_)
  refine mv_iload_n (pc := 4) (i := 1) de_PL_worth_4 rfl 1 rfl ?_
  refine mv_iload_n (pc := 5) (i := 2) de_PL_worth_5 rfl 2 rfl ?_
  obtain ⟨a6, ha, h6a⟩ := mj_bindE h1
  subst ha
  obtain ⟨hi6, h6o⟩ := mj_obE h6a
  obtain ⟨r6, Mm6, hz6, h6⟩ := mj_callE h6o
  refine mv_callV (pc := 6) (n := 2) (av := [.int v1, .int v2]) (rest := []) de_PL_worth_6 (kc_3 l D E B sa) hi6 (cm_Py_setWorth l D E B sa N M a6 v1 v2 _ _ hz6) wt_3_148 wt_3_149 wt_3_150 wt_1_5 wt_3_151 ⟨by decide, by decide, by decide +kernel⟩ rfl ⟨Nat.le_of_ble_eq_true rfl, Nat.le_of_ble_eq_true rfl⟩ (Nat.le_of_ble_eq_true rfl) rfl ?_
  exact mv_iret (pc := 9) rfl de_PL_worth_9 h6
theorem cm_PL_worth (l : Launch) (D : va_G) (E : Nat → ClassId) (B : Nat) (sa : (Nat → Nat) × Nat × (Nat → Int32)) (N : Nat) (M : mv_M) (v0 : Nat) (v1 : Int32) (v2 : Int32) (r : Int32) (M1 : mv_M) (hJ : jf_PL_worth N M v0 v1 v2 = some (r, M1)) : mv_Met (xg l D E B sa) yn_PL_worth cd_PL_worth 3 (some .int) 1 23 [va_rf (some v0), .int v1, .int v2] M (some (.int r)) M1 :=
  mv_enter (by decide) (Nat.le_of_ble_eq_true rfl) (mv_sub (lv := [(0, va_rf (some v0)), (1, .int v1), (2, .int v2)]) [0, 1, 2] rfl (tb_PL_worth_0 l D E B sa M M1 r N M v0 v1 v2 hJ))
/-! ===== java/lang/Integer.bitCount(I)I ===== -/
abbrev kd_Ji_bitCount : mv_Kd := (cd_Ji_bitCount, 1, "java/lang/Integer", "bitCount", (some .int), 0, 0)
theorem de_Ji_bitCount_0 : decode cd_Ji_bitCount 0 = .ok (.iload_n 0, 1) := by decide +kernel
theorem de_Ji_bitCount_1 : decode cd_Ji_bitCount 1 = .ok (.iload_n 0, 1) := by decide +kernel
theorem de_Ji_bitCount_2 : decode cd_Ji_bitCount 2 = .ok (.iconst 1, 1) := by decide +kernel
theorem de_Ji_bitCount_3 : decode cd_Ji_bitCount 3 = .ok (.iushr, 1) := by decide +kernel
theorem de_Ji_bitCount_4 : decode cd_Ji_bitCount 4 = .ok (.ldc_w 265, 3) := by decide +kernel
theorem de_Ji_bitCount_7 : decode cd_Ji_bitCount 7 = .ok (.iand, 1) := by decide +kernel
theorem de_Ji_bitCount_8 : decode cd_Ji_bitCount 8 = .ok (.isub, 1) := by decide +kernel
theorem de_Ji_bitCount_9 : decode cd_Ji_bitCount 9 = .ok (.istore_n 0, 1) := by decide +kernel
theorem de_Ji_bitCount_10 : decode cd_Ji_bitCount 10 = .ok (.iload_n 0, 1) := by decide +kernel
theorem de_Ji_bitCount_11 : decode cd_Ji_bitCount 11 = .ok (.ldc_w 266, 3) := by decide +kernel
theorem de_Ji_bitCount_14 : decode cd_Ji_bitCount 14 = .ok (.iand, 1) := by decide +kernel
theorem de_Ji_bitCount_15 : decode cd_Ji_bitCount 15 = .ok (.iload_n 0, 1) := by decide +kernel
theorem de_Ji_bitCount_16 : decode cd_Ji_bitCount 16 = .ok (.iconst 2, 1) := by decide +kernel
theorem de_Ji_bitCount_17 : decode cd_Ji_bitCount 17 = .ok (.iushr, 1) := by decide +kernel
theorem de_Ji_bitCount_18 : decode cd_Ji_bitCount 18 = .ok (.ldc_w 266, 3) := by decide +kernel
theorem de_Ji_bitCount_21 : decode cd_Ji_bitCount 21 = .ok (.iand, 1) := by decide +kernel
theorem de_Ji_bitCount_22 : decode cd_Ji_bitCount 22 = .ok (.iadd, 1) := by decide +kernel
theorem de_Ji_bitCount_23 : decode cd_Ji_bitCount 23 = .ok (.istore_n 0, 1) := by decide +kernel
theorem de_Ji_bitCount_24 : decode cd_Ji_bitCount 24 = .ok (.iload_n 0, 1) := by decide +kernel
theorem de_Ji_bitCount_25 : decode cd_Ji_bitCount 25 = .ok (.iload_n 0, 1) := by decide +kernel
theorem de_Ji_bitCount_26 : decode cd_Ji_bitCount 26 = .ok (.iconst 4, 1) := by decide +kernel
theorem de_Ji_bitCount_27 : decode cd_Ji_bitCount 27 = .ok (.iushr, 1) := by decide +kernel
theorem de_Ji_bitCount_28 : decode cd_Ji_bitCount 28 = .ok (.iadd, 1) := by decide +kernel
theorem de_Ji_bitCount_29 : decode cd_Ji_bitCount 29 = .ok (.ldc_w 267, 3) := by decide +kernel
theorem de_Ji_bitCount_32 : decode cd_Ji_bitCount 32 = .ok (.iand, 1) := by decide +kernel
theorem de_Ji_bitCount_33 : decode cd_Ji_bitCount 33 = .ok (.istore_n 0, 1) := by decide +kernel
theorem de_Ji_bitCount_34 : decode cd_Ji_bitCount 34 = .ok (.iload_n 0, 1) := by decide +kernel
theorem de_Ji_bitCount_35 : decode cd_Ji_bitCount 35 = .ok (.iload_n 0, 1) := by decide +kernel
theorem de_Ji_bitCount_36 : decode cd_Ji_bitCount 36 = .ok (.bipush 8, 2) := by decide +kernel
theorem de_Ji_bitCount_38 : decode cd_Ji_bitCount 38 = .ok (.iushr, 1) := by decide +kernel
theorem de_Ji_bitCount_39 : decode cd_Ji_bitCount 39 = .ok (.iadd, 1) := by decide +kernel
theorem de_Ji_bitCount_40 : decode cd_Ji_bitCount 40 = .ok (.istore_n 0, 1) := by decide +kernel
theorem de_Ji_bitCount_41 : decode cd_Ji_bitCount 41 = .ok (.iload_n 0, 1) := by decide +kernel
theorem de_Ji_bitCount_42 : decode cd_Ji_bitCount 42 = .ok (.iload_n 0, 1) := by decide +kernel
theorem de_Ji_bitCount_43 : decode cd_Ji_bitCount 43 = .ok (.bipush 16, 2) := by decide +kernel
theorem de_Ji_bitCount_45 : decode cd_Ji_bitCount 45 = .ok (.iushr, 1) := by decide +kernel
theorem de_Ji_bitCount_46 : decode cd_Ji_bitCount 46 = .ok (.iadd, 1) := by decide +kernel
theorem de_Ji_bitCount_47 : decode cd_Ji_bitCount 47 = .ok (.istore_n 0, 1) := by decide +kernel
theorem de_Ji_bitCount_48 : decode cd_Ji_bitCount 48 = .ok (.iload_n 0, 1) := by decide +kernel
theorem de_Ji_bitCount_49 : decode cd_Ji_bitCount 49 = .ok (.bipush 63, 2) := by decide +kernel
theorem de_Ji_bitCount_51 : decode cd_Ji_bitCount 51 = .ok (.iand, 1) := by decide +kernel
theorem de_Ji_bitCount_52 : decode cd_Ji_bitCount 52 = .ok (.ireturn, 1) := by decide +kernel
def jb_Ji_bitCount_0 (N : Nat) (M : mv_M) (v0 : Int32) : Option (Int32 × mv_M) :=
  some (((((((((v0 - (((v0.toUInt32 >>> ((1 : Int32).toUInt32 &&& Int32.toUInt32 31)).toInt32) &&& 1431655765)) &&& 858993459) + ((((v0 - (((v0.toUInt32 >>> ((1 : Int32).toUInt32 &&& Int32.toUInt32 31)).toInt32) &&& 1431655765)).toUInt32 >>> ((2 : Int32).toUInt32 &&& Int32.toUInt32 31)).toInt32) &&& 858993459)) + (((((v0 - (((v0.toUInt32 >>> ((1 : Int32).toUInt32 &&& Int32.toUInt32 31)).toInt32) &&& 1431655765)) &&& 858993459) + ((((v0 - (((v0.toUInt32 >>> ((1 : Int32).toUInt32 &&& Int32.toUInt32 31)).toInt32) &&& 1431655765)).toUInt32 >>> ((2 : Int32).toUInt32 &&& Int32.toUInt32 31)).toInt32) &&& 858993459)).toUInt32 >>> ((4 : Int32).toUInt32 &&& Int32.toUInt32 31)).toInt32)) &&& 252645135) + (((((((v0 - (((v0.toUInt32 >>> ((1 : Int32).toUInt32 &&& Int32.toUInt32 31)).toInt32) &&& 1431655765)) &&& 858993459) + ((((v0 - (((v0.toUInt32 >>> ((1 : Int32).toUInt32 &&& Int32.toUInt32 31)).toInt32) &&& 1431655765)).toUInt32 >>> ((2 : Int32).toUInt32 &&& Int32.toUInt32 31)).toInt32) &&& 858993459)) + (((((v0 - (((v0.toUInt32 >>> ((1 : Int32).toUInt32 &&& Int32.toUInt32 31)).toInt32) &&& 1431655765)) &&& 858993459) + ((((v0 - (((v0.toUInt32 >>> ((1 : Int32).toUInt32 &&& Int32.toUInt32 31)).toInt32) &&& 1431655765)).toUInt32 >>> ((2 : Int32).toUInt32 &&& Int32.toUInt32 31)).toInt32) &&& 858993459)).toUInt32 >>> ((4 : Int32).toUInt32 &&& Int32.toUInt32 31)).toInt32)) &&& 252645135).toUInt32 >>> ((8 : Int32).toUInt32 &&& Int32.toUInt32 31)).toInt32)) + ((((((((v0 - (((v0.toUInt32 >>> ((1 : Int32).toUInt32 &&& Int32.toUInt32 31)).toInt32) &&& 1431655765)) &&& 858993459) + ((((v0 - (((v0.toUInt32 >>> ((1 : Int32).toUInt32 &&& Int32.toUInt32 31)).toInt32) &&& 1431655765)).toUInt32 >>> ((2 : Int32).toUInt32 &&& Int32.toUInt32 31)).toInt32) &&& 858993459)) + (((((v0 - (((v0.toUInt32 >>> ((1 : Int32).toUInt32 &&& Int32.toUInt32 31)).toInt32) &&& 1431655765)) &&& 858993459) + ((((v0 - (((v0.toUInt32 >>> ((1 : Int32).toUInt32 &&& Int32.toUInt32 31)).toInt32) &&& 1431655765)).toUInt32 >>> ((2 : Int32).toUInt32 &&& Int32.toUInt32 31)).toInt32) &&& 858993459)).toUInt32 >>> ((4 : Int32).toUInt32 &&& Int32.toUInt32 31)).toInt32)) &&& 252645135) + (((((((v0 - (((v0.toUInt32 >>> ((1 : Int32).toUInt32 &&& Int32.toUInt32 31)).toInt32) &&& 1431655765)) &&& 858993459) + ((((v0 - (((v0.toUInt32 >>> ((1 : Int32).toUInt32 &&& Int32.toUInt32 31)).toInt32) &&& 1431655765)).toUInt32 >>> ((2 : Int32).toUInt32 &&& Int32.toUInt32 31)).toInt32) &&& 858993459)) + (((((v0 - (((v0.toUInt32 >>> ((1 : Int32).toUInt32 &&& Int32.toUInt32 31)).toInt32) &&& 1431655765)) &&& 858993459) + ((((v0 - (((v0.toUInt32 >>> ((1 : Int32).toUInt32 &&& Int32.toUInt32 31)).toInt32) &&& 1431655765)).toUInt32 >>> ((2 : Int32).toUInt32 &&& Int32.toUInt32 31)).toInt32) &&& 858993459)).toUInt32 >>> ((4 : Int32).toUInt32 &&& Int32.toUInt32 31)).toInt32)) &&& 252645135).toUInt32 >>> ((8 : Int32).toUInt32 &&& Int32.toUInt32 31)).toInt32)).toUInt32 >>> ((16 : Int32).toUInt32 &&& Int32.toUInt32 31)).toInt32)) &&& 63), M)
def jf_Ji_bitCount (N : Nat) (M : mv_M) (v0 : Int32) : Option (Int32 × mv_M) := jb_Ji_bitCount_0 N M v0
set_option maxHeartbeats 4000000 in
set_option maxRecDepth 100000 in
theorem tb_Ji_bitCount_0 (l : Launch) (D : va_G) (E : Nat → ClassId) (B : Nat) (sa : (Nat → Nat) × Nat × (Nat → Int32)) (M0 M1 : mv_M) (r : Int32) (N : Nat) (M : mv_M) (v0 : Int32) (hJ : jb_Ji_bitCount_0 N M v0 = some (r, M1)) : mv_G (xg l D E B sa) kd_Ji_bitCount M0 M1 (some (.int r)) M 0 [(0, .int v0)] [] := by
  unfold jb_Ji_bitCount_0 at hJ
  refine mv_iload_n (pc := 0) (i := 0) de_Ji_bitCount_0 rfl 0 rfl ?_
  refine mv_iload_n (pc := 1) (i := 0) de_Ji_bitCount_1 rfl 0 rfl ?_
  refine mv_iconst (pc := 2) (v := 1) de_Ji_bitCount_2 (by decide) ?_
  refine mv_iushr (pc := 3) de_Ji_bitCount_3 ?_
  refine mv_ldcw (pc := 4) de_Ji_bitCount_4 wt_3_163 ?_
  refine mv_iand (pc := 7) de_Ji_bitCount_7 ?_
  refine mv_isub (pc := 8) de_Ji_bitCount_8 ?_
  refine mv_istore_n (pc := 9) (i := 0) (lv' := [(0, .int (v0 - (((v0.toUInt32 >>> ((1 : Int32).toUInt32 &&& Int32.toUInt32 31)).toInt32) &&& 1431655765)))]) de_Ji_bitCount_9 rfl (Nat.le_of_ble_eq_true rfl) rfl ?_
  refine mv_iload_n (pc := 10) (i := 0) de_Ji_bitCount_10 rfl 0 rfl ?_
  refine mv_ldcw (pc := 11) de_Ji_bitCount_11 wt_3_164 ?_
  refine mv_iand (pc := 14) de_Ji_bitCount_14 ?_
  refine mv_iload_n (pc := 15) (i := 0) de_Ji_bitCount_15 rfl 0 rfl ?_
  refine mv_iconst (pc := 16) (v := 2) de_Ji_bitCount_16 (by decide) ?_
  refine mv_iushr (pc := 17) de_Ji_bitCount_17 ?_
  refine mv_ldcw (pc := 18) de_Ji_bitCount_18 wt_3_164 ?_
  refine mv_iand (pc := 21) de_Ji_bitCount_21 ?_
  refine mv_iadd (pc := 22) de_Ji_bitCount_22 ?_
  refine mv_istore_n (pc := 23) (i := 0) (lv' := [(0, .int (((v0 - (((v0.toUInt32 >>> ((1 : Int32).toUInt32 &&& Int32.toUInt32 31)).toInt32) &&& 1431655765)) &&& 858993459) + ((((v0 - (((v0.toUInt32 >>> ((1 : Int32).toUInt32 &&& Int32.toUInt32 31)).toInt32) &&& 1431655765)).toUInt32 >>> ((2 : Int32).toUInt32 &&& Int32.toUInt32 31)).toInt32) &&& 858993459)))]) de_Ji_bitCount_23 rfl (Nat.le_of_ble_eq_true rfl) rfl ?_
  refine mv_iload_n (pc := 24) (i := 0) de_Ji_bitCount_24 rfl 0 rfl ?_
  refine mv_iload_n (pc := 25) (i := 0) de_Ji_bitCount_25 rfl 0 rfl ?_
  refine mv_iconst (pc := 26) (v := 4) de_Ji_bitCount_26 (by decide) ?_
  refine mv_iushr (pc := 27) de_Ji_bitCount_27 ?_
  refine mv_iadd (pc := 28) de_Ji_bitCount_28 ?_
  refine mv_ldcw (pc := 29) de_Ji_bitCount_29 wt_3_165 ?_
  refine mv_iand (pc := 32) de_Ji_bitCount_32 ?_
  refine mv_istore_n (pc := 33) (i := 0) (lv' := [(0, .int (((((v0 - (((v0.toUInt32 >>> ((1 : Int32).toUInt32 &&& Int32.toUInt32 31)).toInt32) &&& 1431655765)) &&& 858993459) + ((((v0 - (((v0.toUInt32 >>> ((1 : Int32).toUInt32 &&& Int32.toUInt32 31)).toInt32) &&& 1431655765)).toUInt32 >>> ((2 : Int32).toUInt32 &&& Int32.toUInt32 31)).toInt32) &&& 858993459)) + (((((v0 - (((v0.toUInt32 >>> ((1 : Int32).toUInt32 &&& Int32.toUInt32 31)).toInt32) &&& 1431655765)) &&& 858993459) + ((((v0 - (((v0.toUInt32 >>> ((1 : Int32).toUInt32 &&& Int32.toUInt32 31)).toInt32) &&& 1431655765)).toUInt32 >>> ((2 : Int32).toUInt32 &&& Int32.toUInt32 31)).toInt32) &&& 858993459)).toUInt32 >>> ((4 : Int32).toUInt32 &&& Int32.toUInt32 31)).toInt32)) &&& 252645135))]) de_Ji_bitCount_33 rfl (Nat.le_of_ble_eq_true rfl) rfl ?_
  refine mv_iload_n (pc := 34) (i := 0) de_Ji_bitCount_34 rfl 0 rfl ?_
  refine mv_iload_n (pc := 35) (i := 0) de_Ji_bitCount_35 rfl 0 rfl ?_
  refine mv_bipush (pc := 36) (v := 8) de_Ji_bitCount_36 (by decide) ?_
  refine mv_iushr (pc := 38) de_Ji_bitCount_38 ?_
  refine mv_iadd (pc := 39) de_Ji_bitCount_39 ?_
  refine mv_istore_n (pc := 40) (i := 0) (lv' := [(0, .int ((((((v0 - (((v0.toUInt32 >>> ((1 : Int32).toUInt32 &&& Int32.toUInt32 31)).toInt32) &&& 1431655765)) &&& 858993459) + ((((v0 - (((v0.toUInt32 >>> ((1 : Int32).toUInt32 &&& Int32.toUInt32 31)).toInt32) &&& 1431655765)).toUInt32 >>> ((2 : Int32).toUInt32 &&& Int32.toUInt32 31)).toInt32) &&& 858993459)) + (((((v0 - (((v0.toUInt32 >>> ((1 : Int32).toUInt32 &&& Int32.toUInt32 31)).toInt32) &&& 1431655765)) &&& 858993459) + ((((v0 - (((v0.toUInt32 >>> ((1 : Int32).toUInt32 &&& Int32.toUInt32 31)).toInt32) &&& 1431655765)).toUInt32 >>> ((2 : Int32).toUInt32 &&& Int32.toUInt32 31)).toInt32) &&& 858993459)).toUInt32 >>> ((4 : Int32).toUInt32 &&& Int32.toUInt32 31)).toInt32)) &&& 252645135) + (((((((v0 - (((v0.toUInt32 >>> ((1 : Int32).toUInt32 &&& Int32.toUInt32 31)).toInt32) &&& 1431655765)) &&& 858993459) + ((((v0 - (((v0.toUInt32 >>> ((1 : Int32).toUInt32 &&& Int32.toUInt32 31)).toInt32) &&& 1431655765)).toUInt32 >>> ((2 : Int32).toUInt32 &&& Int32.toUInt32 31)).toInt32) &&& 858993459)) + (((((v0 - (((v0.toUInt32 >>> ((1 : Int32).toUInt32 &&& Int32.toUInt32 31)).toInt32) &&& 1431655765)) &&& 858993459) + ((((v0 - (((v0.toUInt32 >>> ((1 : Int32).toUInt32 &&& Int32.toUInt32 31)).toInt32) &&& 1431655765)).toUInt32 >>> ((2 : Int32).toUInt32 &&& Int32.toUInt32 31)).toInt32) &&& 858993459)).toUInt32 >>> ((4 : Int32).toUInt32 &&& Int32.toUInt32 31)).toInt32)) &&& 252645135).toUInt32 >>> ((8 : Int32).toUInt32 &&& Int32.toUInt32 31)).toInt32)))]) de_Ji_bitCount_40 rfl (Nat.le_of_ble_eq_true rfl) rfl ?_
  refine mv_iload_n (pc := 41) (i := 0) de_Ji_bitCount_41 rfl 0 rfl ?_
  refine mv_iload_n (pc := 42) (i := 0) de_Ji_bitCount_42 rfl 0 rfl ?_
  refine mv_bipush (pc := 43) (v := 16) de_Ji_bitCount_43 (by decide) ?_
  refine mv_iushr (pc := 45) de_Ji_bitCount_45 ?_
  refine mv_iadd (pc := 46) de_Ji_bitCount_46 ?_
  refine mv_istore_n (pc := 47) (i := 0) (lv' := [(0, .int (((((((v0 - (((v0.toUInt32 >>> ((1 : Int32).toUInt32 &&& Int32.toUInt32 31)).toInt32) &&& 1431655765)) &&& 858993459) + ((((v0 - (((v0.toUInt32 >>> ((1 : Int32).toUInt32 &&& Int32.toUInt32 31)).toInt32) &&& 1431655765)).toUInt32 >>> ((2 : Int32).toUInt32 &&& Int32.toUInt32 31)).toInt32) &&& 858993459)) + (((((v0 - (((v0.toUInt32 >>> ((1 : Int32).toUInt32 &&& Int32.toUInt32 31)).toInt32) &&& 1431655765)) &&& 858993459) + ((((v0 - (((v0.toUInt32 >>> ((1 : Int32).toUInt32 &&& Int32.toUInt32 31)).toInt32) &&& 1431655765)).toUInt32 >>> ((2 : Int32).toUInt32 &&& Int32.toUInt32 31)).toInt32) &&& 858993459)).toUInt32 >>> ((4 : Int32).toUInt32 &&& Int32.toUInt32 31)).toInt32)) &&& 252645135) + (((((((v0 - (((v0.toUInt32 >>> ((1 : Int32).toUInt32 &&& Int32.toUInt32 31)).toInt32) &&& 1431655765)) &&& 858993459) + ((((v0 - (((v0.toUInt32 >>> ((1 : Int32).toUInt32 &&& Int32.toUInt32 31)).toInt32) &&& 1431655765)).toUInt32 >>> ((2 : Int32).toUInt32 &&& Int32.toUInt32 31)).toInt32) &&& 858993459)) + (((((v0 - (((v0.toUInt32 >>> ((1 : Int32).toUInt32 &&& Int32.toUInt32 31)).toInt32) &&& 1431655765)) &&& 858993459) + ((((v0 - (((v0.toUInt32 >>> ((1 : Int32).toUInt32 &&& Int32.toUInt32 31)).toInt32) &&& 1431655765)).toUInt32 >>> ((2 : Int32).toUInt32 &&& Int32.toUInt32 31)).toInt32) &&& 858993459)).toUInt32 >>> ((4 : Int32).toUInt32 &&& Int32.toUInt32 31)).toInt32)) &&& 252645135).toUInt32 >>> ((8 : Int32).toUInt32 &&& Int32.toUInt32 31)).toInt32)) + ((((((((v0 - (((v0.toUInt32 >>> ((1 : Int32).toUInt32 &&& Int32.toUInt32 31)).toInt32) &&& 1431655765)) &&& 858993459) + ((((v0 - (((v0.toUInt32 >>> ((1 : Int32).toUInt32 &&& Int32.toUInt32 31)).toInt32) &&& 1431655765)).toUInt32 >>> ((2 : Int32).toUInt32 &&& Int32.toUInt32 31)).toInt32) &&& 858993459)) + (((((v0 - (((v0.toUInt32 >>> ((1 : Int32).toUInt32 &&& Int32.toUInt32 31)).toInt32) &&& 1431655765)) &&& 858993459) + ((((v0 - (((v0.toUInt32 >>> ((1 : Int32).toUInt32 &&& Int32.toUInt32 31)).toInt32) &&& 1431655765)).toUInt32 >>> ((2 : Int32).toUInt32 &&& Int32.toUInt32 31)).toInt32) &&& 858993459)).toUInt32 >>> ((4 : Int32).toUInt32 &&& Int32.toUInt32 31)).toInt32)) &&& 252645135) + (((((((v0 - (((v0.toUInt32 >>> ((1 : Int32).toUInt32 &&& Int32.toUInt32 31)).toInt32) &&& 1431655765)) &&& 858993459) + ((((v0 - (((v0.toUInt32 >>> ((1 : Int32).toUInt32 &&& Int32.toUInt32 31)).toInt32) &&& 1431655765)).toUInt32 >>> ((2 : Int32).toUInt32 &&& Int32.toUInt32 31)).toInt32) &&& 858993459)) + (((((v0 - (((v0.toUInt32 >>> ((1 : Int32).toUInt32 &&& Int32.toUInt32 31)).toInt32) &&& 1431655765)) &&& 858993459) + ((((v0 - (((v0.toUInt32 >>> ((1 : Int32).toUInt32 &&& Int32.toUInt32 31)).toInt32) &&& 1431655765)).toUInt32 >>> ((2 : Int32).toUInt32 &&& Int32.toUInt32 31)).toInt32) &&& 858993459)).toUInt32 >>> ((4 : Int32).toUInt32 &&& Int32.toUInt32 31)).toInt32)) &&& 252645135).toUInt32 >>> ((8 : Int32).toUInt32 &&& Int32.toUInt32 31)).toInt32)).toUInt32 >>> ((16 : Int32).toUInt32 &&& Int32.toUInt32 31)).toInt32)))]) de_Ji_bitCount_47 rfl (Nat.le_of_ble_eq_true rfl) rfl ?_
  refine mv_iload_n (pc := 48) (i := 0) de_Ji_bitCount_48 rfl 0 rfl ?_
  refine mv_bipush (pc := 49) (v := 63) de_Ji_bitCount_49 (by decide) ?_
  refine mv_iand (pc := 51) de_Ji_bitCount_51 ?_
  exact mv_iret (pc := 52) rfl de_Ji_bitCount_52 hJ
theorem cm_Ji_bitCount (l : Launch) (D : va_G) (E : Nat → ClassId) (B : Nat) (sa : (Nat → Nat) × Nat × (Nat → Int32)) (N : Nat) (M : mv_M) (v0 : Int32) (r : Int32) (M1 : mv_M) (hJ : jf_Ji_bitCount N M v0 = some (r, M1)) : mv_Met (xg l D E B sa) yn_Ji_bitCount cd_Ji_bitCount 1 (some .int) 0 0 [.int v0] M (some (.int r)) M1 :=
  mv_enter (by decide) (Nat.le_of_ble_eq_true rfl) (mv_sub (lv := [(0, .int v0)]) [0] rfl (tb_Ji_bitCount_0 l D E B sa M M1 r N M v0 hJ))
/-! ===== PlainLearner$Players.shareOf(I)J ===== -/
abbrev kd_Py_shareOf : mv_Kd := (cd_Py_shareOf, 9, "PlainLearner$Players", "shareOf", (some .long), 2, 55)
theorem de_Py_shareOf_0 : decode cd_Py_shareOf 0 = .ok (.iconst 1, 1) := by decide +kernel
theorem de_Py_shareOf_1 : decode cd_Py_shareOf 1 = .ok (.iload_n 1, 1) := by decide +kernel
theorem de_Py_shareOf_2 : decode cd_Py_shareOf 2 = .ok (.ishl, 1) := by decide +kernel
theorem de_Py_shareOf_3 : decode cd_Py_shareOf 3 = .ok (.istore_n 2, 1) := by decide +kernel
theorem de_Py_shareOf_4 : decode cd_Py_shareOf 4 = .ok (.lconst 0, 1) := by decide +kernel
theorem de_Py_shareOf_5 : decode cd_Py_shareOf 5 = .ok (.lstore_n 3, 1) := by decide +kernel
theorem de_Py_shareOf_6 : decode cd_Py_shareOf 6 = .ok (.iconst 0, 1) := by decide +kernel
theorem de_Py_shareOf_7 : decode cd_Py_shareOf 7 = .ok (.istore 5, 2) := by decide +kernel
theorem de_Py_shareOf_9 : decode cd_Py_shareOf 9 = .ok (.iload 5, 2) := by decide +kernel
theorem de_Py_shareOf_11 : decode cd_Py_shareOf 11 = .ok (.iconst 1, 1) := by decide +kernel
theorem de_Py_shareOf_12 : decode cd_Py_shareOf 12 = .ok (.aload_n 0, 1) := by decide +kernel
theorem de_Py_shareOf_13 : decode cd_Py_shareOf 13 = .ok (.getfield 15, 3) := by decide +kernel
theorem de_Py_shareOf_16 : decode cd_Py_shareOf 16 = .ok (.ishl, 1) := by decide +kernel
theorem de_Py_shareOf_17 : decode cd_Py_shareOf 17 = .ok (.if_icmp .ge 71, 3) := by decide +kernel
theorem de_Py_shareOf_20 : decode cd_Py_shareOf 20 = .ok (.iload 5, 2) := by decide +kernel
theorem de_Py_shareOf_22 : decode cd_Py_shareOf 22 = .ok (.iload_n 2, 1) := by decide +kernel
theorem de_Py_shareOf_23 : decode cd_Py_shareOf 23 = .ok (.iand, 1) := by decide +kernel
theorem de_Py_shareOf_24 : decode cd_Py_shareOf 24 = .ok (.ifCond .ne 58, 3) := by decide +kernel
theorem de_Py_shareOf_27 : decode cd_Py_shareOf 27 = .ok (.iload 5, 2) := by decide +kernel
theorem de_Py_shareOf_29 : decode cd_Py_shareOf 29 = .ok (.invokestatic 25, 3) := by decide +kernel
theorem de_Py_shareOf_32 : decode cd_Py_shareOf 32 = .ok (.istore 6, 2) := by decide +kernel
theorem de_Py_shareOf_34 : decode cd_Py_shareOf 34 = .ok (.getstatic 31, 3) := by decide +kernel
theorem de_Py_shareOf_37 : decode cd_Py_shareOf 37 = .ok (.iload 6, 2) := by decide +kernel
theorem de_Py_shareOf_39 : decode cd_Py_shareOf 39 = .ok (.iaload, 1) := by decide +kernel
theorem de_Py_shareOf_40 : decode cd_Py_shareOf 40 = .ok (.i2l, 1) := by decide +kernel
theorem de_Py_shareOf_41 : decode cd_Py_shareOf 41 = .ok (.getstatic 31, 3) := by decide +kernel
theorem de_Py_shareOf_44 : decode cd_Py_shareOf 44 = .ok (.aload_n 0, 1) := by decide +kernel
theorem de_Py_shareOf_45 : decode cd_Py_shareOf 45 = .ok (.getfield 15, 3) := by decide +kernel
theorem de_Py_shareOf_48 : decode cd_Py_shareOf 48 = .ok (.iconst 1, 1) := by decide +kernel
theorem de_Py_shareOf_49 : decode cd_Py_shareOf 49 = .ok (.isub, 1) := by decide +kernel
theorem de_Py_shareOf_50 : decode cd_Py_shareOf 50 = .ok (.iload 6, 2) := by decide +kernel
theorem de_Py_shareOf_52 : decode cd_Py_shareOf 52 = .ok (.isub, 1) := by decide +kernel
theorem de_Py_shareOf_53 : decode cd_Py_shareOf 53 = .ok (.iaload, 1) := by decide +kernel
theorem de_Py_shareOf_54 : decode cd_Py_shareOf 54 = .ok (.i2l, 1) := by decide +kernel
theorem de_Py_shareOf_55 : decode cd_Py_shareOf 55 = .ok (.lmul, 1) := by decide +kernel
theorem de_Py_shareOf_56 : decode cd_Py_shareOf 56 = .ok (.lstore 7, 2) := by decide +kernel
theorem de_Py_shareOf_58 : decode cd_Py_shareOf 58 = .ok (.lload_n 3, 1) := by decide +kernel
theorem de_Py_shareOf_59 : decode cd_Py_shareOf 59 = .ok (.lload 7, 2) := by decide +kernel
theorem de_Py_shareOf_61 : decode cd_Py_shareOf 61 = .ok (.aload_n 0, 1) := by decide +kernel
theorem de_Py_shareOf_62 : decode cd_Py_shareOf 62 = .ok (.getfield 11, 3) := by decide +kernel
theorem de_Py_shareOf_65 : decode cd_Py_shareOf 65 = .ok (.iload 5, 2) := by decide +kernel
theorem de_Py_shareOf_67 : decode cd_Py_shareOf 67 = .ok (.iload_n 2, 1) := by decide +kernel
theorem de_Py_shareOf_68 : decode cd_Py_shareOf 68 = .ok (.ior, 1) := by decide +kernel
theorem de_Py_shareOf_69 : decode cd_Py_shareOf 69 = .ok (.iaload, 1) := by decide +kernel
theorem de_Py_shareOf_70 : decode cd_Py_shareOf 70 = .ok (.aload_n 0, 1) := by decide +kernel
theorem de_Py_shareOf_71 : decode cd_Py_shareOf 71 = .ok (.getfield 11, 3) := by decide +kernel
theorem de_Py_shareOf_74 : decode cd_Py_shareOf 74 = .ok (.iload 5, 2) := by decide +kernel
theorem de_Py_shareOf_76 : decode cd_Py_shareOf 76 = .ok (.iaload, 1) := by decide +kernel
theorem de_Py_shareOf_77 : decode cd_Py_shareOf 77 = .ok (.isub, 1) := by decide +kernel
theorem de_Py_shareOf_78 : decode cd_Py_shareOf 78 = .ok (.i2l, 1) := by decide +kernel
theorem de_Py_shareOf_79 : decode cd_Py_shareOf 79 = .ok (.lmul, 1) := by decide +kernel
theorem de_Py_shareOf_80 : decode cd_Py_shareOf 80 = .ok (.ladd, 1) := by decide +kernel
theorem de_Py_shareOf_81 : decode cd_Py_shareOf 81 = .ok (.lstore_n 3, 1) := by decide +kernel
theorem de_Py_shareOf_82 : decode cd_Py_shareOf 82 = .ok (.iinc 5 1, 3) := by decide +kernel
theorem de_Py_shareOf_85 : decode cd_Py_shareOf 85 = .ok (.goto (-76), 3) := by decide +kernel
theorem de_Py_shareOf_88 : decode cd_Py_shareOf 88 = .ok (.lload_n 3, 1) := by decide +kernel
theorem de_Py_shareOf_89 : decode cd_Py_shareOf 89 = .ok (.getstatic 31, 3) := by decide +kernel
theorem de_Py_shareOf_92 : decode cd_Py_shareOf 92 = .ok (.aload_n 0, 1) := by decide +kernel
theorem de_Py_shareOf_93 : decode cd_Py_shareOf 93 = .ok (.getfield 15, 3) := by decide +kernel
theorem de_Py_shareOf_96 : decode cd_Py_shareOf 96 = .ok (.iaload, 1) := by decide +kernel
theorem de_Py_shareOf_97 : decode cd_Py_shareOf 97 = .ok (.i2l, 1) := by decide +kernel
theorem de_Py_shareOf_98 : decode cd_Py_shareOf 98 = .ok (.invokestatic 34, 3) := by decide +kernel
theorem de_Py_shareOf_101 : decode cd_Py_shareOf 101 = .ok (.lreturn, 1) := by decide +kernel
def jb_Py_shareOf_82 (N : Nat) (k9 : mv_M → Nat → Int32 → Int64 → Int32 → Option (Int64 × mv_M)) (M : mv_M) (v0 : Nat) (v2 : Int32) (v3 : Int64) (v5 : Int32) : Option (Int64 × mv_M) :=
  k9 M v0 v2 v3 (v5 + 1)
def jb_Py_shareOf_9 (N : Nat) : Nat → mv_M → Nat → Int32 → Int64 → Int32 → Option (Int64 × mv_M)
  | 0, _, _, _, _, _ => none
  | n + 1, M, v0, v2, v3, v5 =>
    Option.bind (mj_getI M v0 3 1) fun x13 =>
    if ((1 : Int32) <<< (x13 &&& 31)) ≤ v5 then (Option.bind (mj_getI M v0 3 1) fun x93 =>
    Option.bind (mj_tab sf_0 9 x93) fun x96 =>
    mj_call (jf_Fr_of N M v3 x96.toInt64) fun r98 Mm98 =>
    some (r98, Mm98)) else
    if (v5 &&& v2) = 0 then (mj_call (jf_Ji_bitCount N M v5) fun r29 Mm29 =>
    Option.bind (mj_tab sf_0 9 r29) fun x39 =>
    Option.bind (mj_getI Mm29 v0 3 1) fun x45 =>
    Option.bind (mj_tab sf_0 9 ((x45 - 1) - r29)) fun x53 =>
    Option.bind (mj_getR Mm29 v0 3 0) fun x62 =>
    Option.bind x62 fun a69 =>
    Option.bind (mj_ild Mm29 a69 0 (v5 ||| v2)) fun x69 =>
    Option.bind (mj_getR Mm29 v0 3 0) fun x71 =>
    Option.bind x71 fun a76 =>
    Option.bind (mj_ild Mm29 a76 0 v5) fun x76 =>
    jb_Py_shareOf_82 N (jb_Py_shareOf_9 N n) Mm29 v0 v2 (v3 + ((x39.toInt64 * x53.toInt64) * (x69 - x76).toInt64)) v5) else
    jb_Py_shareOf_82 N (jb_Py_shareOf_9 N n) M v0 v2 v3 v5
def jb_Py_shareOf_0 (N : Nat) (M : mv_M) (v0 : Nat) (v1 : Int32) : Option (Int64 × mv_M) :=
  jb_Py_shareOf_9 N N M v0 ((1 : Int32) <<< (v1 &&& 31)) 0 0
def jf_Py_shareOf (N : Nat) (M : mv_M) (v0 : Nat) (v1 : Int32) : Option (Int64 × mv_M) := jb_Py_shareOf_0 N M v0 v1
set_option maxHeartbeats 4000000 in
set_option maxRecDepth 100000 in
theorem tb_Py_shareOf_82 (l : Launch) (D : va_G) (E : Nat → ClassId) (B : Nat) (sa : (Nat → Nat) × Nat × (Nat → Int32)) (M0 M1 : mv_M) (r : Int64) (N : Nat) (k9 : mv_M → Nat → Int32 → Int64 → Int32 → Option (Int64 × mv_M)) (hk9 : ∀ (M : mv_M) (v0 : Nat) (v2 : Int32) (v3 : Int64) (v5 : Int32), k9 M v0 v2 v3 v5 = some (r, M1) → mv_G (xg l D E B sa) kd_Py_shareOf M0 M1 (some (.long r)) M 9 [(0, va_rf (some v0)), (2, .int v2), (3, .long v3), (5, .int v5)] []) (M : mv_M) (v0 : Nat) (v2 : Int32) (v3 : Int64) (v5 : Int32) (hJ : jb_Py_shareOf_82 N k9 M v0 v2 v3 v5 = some (r, M1)) : mv_G (xg l D E B sa) kd_Py_shareOf M0 M1 (some (.long r)) M 82 [(0, va_rf (some v0)), (2, .int v2), (3, .long v3), (5, .int v5)] [] := by
  unfold jb_Py_shareOf_82 at hJ
  refine mv_iinc (pc := 82) (v := (v5 + 1)) (lv' := [(5, .int (v5 + 1)), (0, va_rf (some v0)), (2, .int v2), (3, .long v3)]) de_Py_shareOf_82 3 rfl rfl (Nat.le_of_ble_eq_true rfl) rfl ?_
  refine mv_goto (pc := 85) (tgt := 9) de_Py_shareOf_85 (by decide) ?_
  exact mv_sub [1, 2, 3, 0] rfl (hk9 M v0 v2 v3 (v5 + 1) hJ)
set_option maxHeartbeats 4000000 in
set_option maxRecDepth 100000 in
theorem tb_Py_shareOf_9 (l : Launch) (D : va_G) (E : Nat → ClassId) (B : Nat) (sa : (Nat → Nat) × Nat × (Nat → Int32)) (M0 M1 : mv_M) (r : Int64) (N : Nat) : ∀ (n : Nat) (M : mv_M) (v0 : Nat) (v2 : Int32) (v3 : Int64) (v5 : Int32) (hJ : jb_Py_shareOf_9 N n M v0 v2 v3 v5 = some (r, M1)), mv_G (xg l D E B sa) kd_Py_shareOf M0 M1 (some (.long r)) M 9 [(0, va_rf (some v0)), (2, .int v2), (3, .long v3), (5, .int v5)] [] := by
  intro n
  induction n with
  | zero => intro M v0 v2 v3 v5 hJ; cases hJ
  | succ n ih =>
    intro M v0 v2 v3 v5 hJ
    rw [jb_Py_shareOf_9] at hJ
    refine mv_iload (pc := 9) de_Py_shareOf_9 3 rfl ?_
    refine mv_iconst (pc := 11) (v := 1) de_Py_shareOf_11 (by decide) ?_
    refine mv_aload_n (pc := 12) (i := 0) de_Py_shareOf_12 rfl 0 rfl ?_
    refine mv_getI (pc := 13) (f := 1) (kc_3 l D E B sa) (Nat.le_of_ble_eq_true rfl) wt_1_91 de_Py_shareOf_13 hJ (fun x13 e13 h13 => ?_)
    refine mv_ishl (pc := 16) de_Py_shareOf_16 ?_
    refine mv_icmp_ge (pc := 17) (tgt := 88) de_Py_shareOf_17 (by decide) h13 (fun hc17 h17 => ?_) (fun hc17 h17 => ?_)
    · refine mv_lload_n (pc := 88) (i := 3) de_Py_shareOf_88 rfl 2 rfl ?_
      refine mv_gets (pc := 89) (by decide) (sm_0 l D E B sa) wt_3_166 de_Py_shareOf_89 ?_
      refine mv_aload_n (pc := 92) (i := 0) de_Py_shareOf_92 rfl 0 rfl ?_
      refine mv_getI (pc := 93) (f := 1) (kc_3 l D E B sa) (Nat.le_of_ble_eq_true rfl) wt_1_91 de_Py_shareOf_93 h17 (fun x93 e93 h93 => ?_)
      refine mv_sald (pc := 96) (sm_0 l D E B sa) de_Py_shareOf_96 h93 (fun x96 e96 h96 => ?_)
      refine mv_i2l (pc := 97) de_Py_shareOf_97 ?_
      obtain ⟨r98, Mm98, hz98, h98⟩ := mj_callE h96
      refine mv_callS (pc := 98) (n := 2) (av := [.long v3, .long x96.toInt64]) (rest := []) de_Py_shareOf_98 (cm_Fr_of l D E B sa N M v3 x96.toInt64 _ _ hz98) wt_3_168 wt_1_35 wt_1_3 wt_1_36 ⟨by decide, by decide, by decide +kernel⟩ rfl ⟨Nat.le_of_ble_eq_true rfl, Nat.le_of_ble_eq_true rfl⟩ (Nat.le_of_ble_eq_true rfl) rfl ?_
      exact mv_lret (pc := 101) rfl de_Py_shareOf_101 h98
    · refine mv_iload (pc := 20) de_Py_shareOf_20 3 rfl ?_
      refine mv_iload_n (pc := 22) (i := 2) de_Py_shareOf_22 rfl 1 rfl ?_
      refine mv_iand (pc := 23) de_Py_shareOf_23 ?_
      refine mv_if_ne (pc := 24) (tgt := 82) de_Py_shareOf_24 (by decide) h17 (fun hc24 h24 => ?_) (fun hc24 h24 => ?_)
      · refine mv_iload (pc := 27) de_Py_shareOf_27 3 rfl ?_
        obtain ⟨r29, Mm29, hz29, h29⟩ := mj_callE h24
        refine mv_callS (pc := 29) (n := 1) (av := [.int v5]) (rest := []) de_Py_shareOf_29 (cm_Ji_bitCount l D E B sa N M v5 _ _ hz29) wt_3_160 wt_3_161 wt_1_16 wt_3_162 ⟨by decide, by decide, by decide +kernel⟩ rfl ⟨Nat.le_of_ble_eq_true rfl, Nat.le_of_ble_eq_true rfl⟩ (Nat.le_of_ble_eq_true rfl) rfl ?_
        refine mv_istore (pc := 32) (lv' := [(6, .int r29), (0, va_rf (some v0)), (2, .int v2), (3, .long v3), (5, .int v5)]) de_Py_shareOf_32 (Nat.le_of_ble_eq_true rfl) rfl ?_
        refine mv_gets (pc := 34) (by decide) (sm_0 l D E B sa) wt_3_166 de_Py_shareOf_34 ?_
        refine mv_iload (pc := 37) de_Py_shareOf_37 0 rfl ?_
        refine mv_sald (pc := 39) (sm_0 l D E B sa) de_Py_shareOf_39 h29 (fun x39 e39 h39 => ?_)
        refine mv_i2l (pc := 40) de_Py_shareOf_40 ?_
        refine mv_gets (pc := 41) (by decide) (sm_0 l D E B sa) wt_3_166 de_Py_shareOf_41 ?_
        refine mv_aload_n (pc := 44) (i := 0) de_Py_shareOf_44 rfl 1 rfl ?_
        refine mv_getI (pc := 45) (f := 1) (kc_3 l D E B sa) (Nat.le_of_ble_eq_true rfl) wt_1_91 de_Py_shareOf_45 h39 (fun x45 e45 h45 => ?_)
        refine mv_iconst (pc := 48) (v := 1) de_Py_shareOf_48 (by decide) ?_
        refine mv_isub (pc := 49) de_Py_shareOf_49 ?_
        refine mv_iload (pc := 50) de_Py_shareOf_50 0 rfl ?_
        refine mv_isub (pc := 52) de_Py_shareOf_52 ?_
        refine mv_sald (pc := 53) (sm_0 l D E B sa) de_Py_shareOf_53 h45 (fun x53 e53 h53 => ?_)
        refine mv_i2l (pc := 54) de_Py_shareOf_54 ?_
        refine mv_lmul (pc := 55) de_Py_shareOf_55 ?_
        refine mv_lstore (pc := 56) (lv' := [(7, .long (x39.toInt64 * x53.toInt64)), (6, .int r29), (0, va_rf (some v0)), (2, .int v2), (3, .long v3), (5, .int v5)]) de_Py_shareOf_56 (Nat.le_of_ble_eq_true rfl) rfl ?_
        refine mv_lload_n (pc := 58) (i := 3) de_Py_shareOf_58 rfl 4 rfl ?_
        refine mv_lload (pc := 59) de_Py_shareOf_59 0 rfl ?_
        refine mv_aload_n (pc := 61) (i := 0) de_Py_shareOf_61 rfl 2 rfl ?_
        refine mv_getR (pc := 62) (f := 0) (kc_3 l D E B sa) (Nat.le_of_ble_eq_true rfl) wt_1_90 de_Py_shareOf_62 h53 (fun x62 e62 h62 => ?_)
        refine mv_iload (pc := 65) de_Py_shareOf_65 5 rfl ?_
        refine mv_iload_n (pc := 67) (i := 2) de_Py_shareOf_67 rfl 3 rfl ?_
        refine mv_ior (pc := 68) de_Py_shareOf_68 ?_
        obtain ⟨a69, ha, h69a⟩ := mj_bindE h62
        subst ha
        refine mv_iald (pc := 69) (t := 0) rfl de_Py_shareOf_69 h69a (fun x69 e69 h69 => ?_)
        refine mv_aload_n (pc := 70) (i := 0) de_Py_shareOf_70 rfl 2 rfl ?_
        refine mv_getR (pc := 71) (f := 0) (kc_3 l D E B sa) (Nat.le_of_ble_eq_true rfl) wt_1_90 de_Py_shareOf_71 h69 (fun x71 e71 h71 => ?_)
        refine mv_iload (pc := 74) de_Py_shareOf_74 5 rfl ?_
        obtain ⟨a76, ha, h76a⟩ := mj_bindE h71
        subst ha
        refine mv_iald (pc := 76) (t := 0) rfl de_Py_shareOf_76 h76a (fun x76 e76 h76 => ?_)
        refine mv_isub (pc := 77) de_Py_shareOf_77 ?_
        refine mv_i2l (pc := 78) de_Py_shareOf_78 ?_
        refine mv_lmul (pc := 79) de_Py_shareOf_79 ?_
        refine mv_ladd (pc := 80) de_Py_shareOf_80 ?_
        refine mv_lstore_n (pc := 81) (i := 3) (lv' := [(3, .long (v3 + ((x39.toInt64 * x53.toInt64) * (x69 - x76).toInt64))), (7, .long (x39.toInt64 * x53.toInt64)), (6, .int r29), (0, va_rf (some v0)), (2, .int v2), (5, .int v5)]) de_Py_shareOf_81 rfl (Nat.le_of_ble_eq_true rfl) rfl ?_
        exact mv_sub [3, 4, 0, 5] rfl (tb_Py_shareOf_82 l D E B sa M0 M1 r N (jb_Py_shareOf_9 N n) ih Mm29 v0 v2 (v3 + ((x39.toInt64 * x53.toInt64) * (x69 - x76).toInt64)) v5 h76)
      · exact mv_sub [0, 1, 2, 3] rfl (tb_Py_shareOf_82 l D E B sa M0 M1 r N (jb_Py_shareOf_9 N n) ih M v0 v2 v3 v5 h24)
set_option maxHeartbeats 4000000 in
set_option maxRecDepth 100000 in
theorem tb_Py_shareOf_0 (l : Launch) (D : va_G) (E : Nat → ClassId) (B : Nat) (sa : (Nat → Nat) × Nat × (Nat → Int32)) (M0 M1 : mv_M) (r : Int64) (N : Nat) (M : mv_M) (v0 : Nat) (v1 : Int32) (hJ : jb_Py_shareOf_0 N M v0 v1 = some (r, M1)) : mv_G (xg l D E B sa) kd_Py_shareOf M0 M1 (some (.long r)) M 0 [(0, va_rf (some v0)), (1, .int v1)] [] := by
  unfold jb_Py_shareOf_0 at hJ
  refine mv_iconst (pc := 0) (v := 1) de_Py_shareOf_0 (by decide) ?_
  refine mv_iload_n (pc := 1) (i := 1) de_Py_shareOf_1 rfl 1 rfl ?_
  refine mv_ishl (pc := 2) de_Py_shareOf_2 ?_
  refine mv_istore_n (pc := 3) (i := 2) (lv' := [(2, .int ((1 : Int32) <<< (v1 &&& 31))), (0, va_rf (some v0)), (1, .int v1)]) de_Py_shareOf_3 rfl (Nat.le_of_ble_eq_true rfl) rfl ?_
  refine mv_lconst (pc := 4) (v := 0) de_Py_shareOf_4 (by decide) ?_
  refine mv_lstore_n (pc := 5) (i := 3) (lv' := [(3, .long 0), (2, .int ((1 : Int32) <<< (v1 &&& 31))), (0, va_rf (some v0)), (1, .int v1)]) de_Py_shareOf_5 rfl (Nat.le_of_ble_eq_true rfl) rfl ?_
  refine mv_iconst (pc := 6) (v := 0) de_Py_shareOf_6 (by decide) ?_
  refine mv_istore (pc := 7) (lv' := [(5, .int 0), (3, .long 0), (2, .int ((1 : Int32) <<< (v1 &&& 31))), (0, va_rf (some v0)), (1, .int v1)]) de_Py_shareOf_7 (Nat.le_of_ble_eq_true rfl) rfl ?_
  exact mv_sub [3, 2, 1, 0] rfl (tb_Py_shareOf_9 l D E B sa M0 M1 r N N M v0 ((1 : Int32) <<< (v1 &&& 31)) 0 0 hJ)
theorem cm_Py_shareOf (l : Launch) (D : va_G) (E : Nat → ClassId) (B : Nat) (sa : (Nat → Nat) × Nat × (Nat → Int32)) (N : Nat) (M : mv_M) (v0 : Nat) (v1 : Int32) (r : Int64) (M1 : mv_M) (hJ : jf_Py_shareOf N M v0 v1 = some (r, M1)) : mv_Met (xg l D E B sa) yn_Py_shareOf cd_Py_shareOf 9 (some .long) 2 55 [va_rf (some v0), .int v1] M (some (.long r)) M1 :=
  mv_enter (by decide) (Nat.le_of_ble_eq_true rfl) (mv_sub (lv := [(0, va_rf (some v0)), (1, .int v1)]) [0, 1] rfl (tb_Py_shareOf_0 l D E B sa M M1 r N M v0 v1 hJ))
/-! ===== PlainLearner.share(II)J ===== -/
abbrev kd_PL_share : mv_Kd := (cd_PL_share, 3, "PlainLearner", "share", (some .long), 3, 83)
theorem de_PL_share_0 : decode cd_PL_share 0 = .ok (.iload_n 1, 1) := by decide +kernel
theorem de_PL_share_1 : decode cd_PL_share 1 = .ok (.ifCond .lt 21, 3) := by decide +kernel
theorem de_PL_share_4 : decode cd_PL_share 4 = .ok (.iload_n 1, 1) := by decide +kernel
theorem de_PL_share_5 : decode cd_PL_share 5 = .ok (.aload_n 0, 1) := by decide +kernel
theorem de_PL_share_6 : decode cd_PL_share 6 = .ok (.getfield 26, 3) := by decide +kernel
theorem de_PL_share_9 : decode cd_PL_share 9 = .ok (.getfield 148, 3) := by decide +kernel
theorem de_PL_share_12 : decode cd_PL_share 12 = .ok (.if_icmp .ge 10, 3) := by decide +kernel
theorem de_PL_share_15 : decode cd_PL_share 15 = .ok (.iload_n 2, 1) := by decide +kernel
theorem de_PL_share_16 : decode cd_PL_share 16 = .ok (.invokestatic 82, 3) := by decide +kernel
theorem de_PL_share_19 : decode cd_PL_share 19 = .ok (.ifCond .ne 7, 3) := by decide +kernel
theorem de_PL_share_22 : decode cd_PL_share 22 = .ok (.ldc2_w 85, 3) := by decide +kernel
theorem de_PL_share_25 : decode cd_PL_share 25 = .ok (.lreturn, 1) := by decide +kernel
theorem de_PL_share_26 : decode cd_PL_share 26 = .ok (.aload_n 0, 1) := by decide +kernel
theorem de_PL_share_27 : decode cd_PL_share 27 = .ok (.getfield 26, 3) := by decide +kernel
theorem de_PL_share_30 : decode cd_PL_share 30 = .ok (.iload_n 1, 1) := by decide +kernel
theorem de_PL_share_31 : decode cd_PL_share 31 = .ok (.invokevirtual 152, 3) := by decide +kernel
theorem de_PL_share_34 : decode cd_PL_share 34 = .ok (.iload_n 2, 1) := by decide +kernel
theorem de_PL_share_35 : decode cd_PL_share 35 = .ok (.invokestatic 95, 3) := by decide +kernel
theorem de_PL_share_38 : decode cd_PL_share 38 = .ok (.lreturn, 1) := by decide +kernel
def jb_PL_share_22 (N : Nat) (M : mv_M) : Option (Int64 × mv_M) :=
  some ((-1099511627776), M)
def jb_PL_share_0 (N : Nat) (M : mv_M) (v0 : Nat) (v1 : Int32) (v2 : Int32) : Option (Int64 × mv_M) :=
  if v1 < 0 then (jb_PL_share_22 N M) else
  Option.bind (mj_getR M v0 0 2) fun x6 =>
  Option.bind x6 fun a9 =>
  Option.bind (mj_getI M a9 3 1) fun x9 =>
  if x9 ≤ v1 then (jb_PL_share_22 N M) else
  mj_call (jf_PL_isSide N M v2) fun r16 Mm16 =>
  if r16 = 0 then (jb_PL_share_22 N Mm16) else
  Option.bind (mj_getR Mm16 v0 0 2) fun x27 =>
  Option.bind x27 fun a31 =>
  mj_ob Mm16 a31 3 <|
  mj_call (jf_Py_shareOf N Mm16 a31 v1) fun r31 Mm31 =>
  mj_call (jf_Fr_sideOf N Mm31 r31 v2) fun r35 Mm35 =>
  some (r35, Mm35)
def jf_PL_share (N : Nat) (M : mv_M) (v0 : Nat) (v1 : Int32) (v2 : Int32) : Option (Int64 × mv_M) := jb_PL_share_0 N M v0 v1 v2
set_option maxHeartbeats 4000000 in
set_option maxRecDepth 100000 in
theorem tb_PL_share_22 (l : Launch) (D : va_G) (E : Nat → ClassId) (B : Nat) (sa : (Nat → Nat) × Nat × (Nat → Int32)) (M0 M1 : mv_M) (r : Int64) (N : Nat) (M : mv_M) (hJ : jb_PL_share_22 N M = some (r, M1)) : mv_G (xg l D E B sa) kd_PL_share M0 M1 (some (.long r)) M 22 [] [] := by
  unfold jb_PL_share_22 at hJ
  refine mv_ldc2 (pc := 22) de_PL_share_22 wt_2_168 ?_
  exact mv_lret (pc := 25) rfl de_PL_share_25 hJ
set_option maxHeartbeats 4000000 in
set_option maxRecDepth 100000 in
theorem tb_PL_share_0 (l : Launch) (D : va_G) (E : Nat → ClassId) (B : Nat) (sa : (Nat → Nat) × Nat × (Nat → Int32)) (M0 M1 : mv_M) (r : Int64) (N : Nat) (M : mv_M) (v0 : Nat) (v1 : Int32) (v2 : Int32) (hJ : jb_PL_share_0 N M v0 v1 v2 = some (r, M1)) : mv_G (xg l D E B sa) kd_PL_share M0 M1 (some (.long r)) M 0 [(0, va_rf (some v0)), (1, .int v1), (2, .int v2)] [] := by
  unfold jb_PL_share_0 at hJ
  refine mv_iload_n (pc := 0) (i := 1) de_PL_share_0 rfl 1 rfl ?_
  refine mv_if_lt (pc := 1) (tgt := 22) de_PL_share_1 (by decide) hJ (fun hc1 h1 => ?_) (fun hc1 h1 => ?_)
  · exact mv_sub [] rfl (tb_PL_share_22 l D E B sa M0 M1 r N M h1)
  · refine mv_iload_n (pc := 4) (i := 1) de_PL_share_4 rfl 1 rfl ?_
    refine mv_aload_n (pc := 5) (i := 0) de_PL_share_5 rfl 0 rfl ?_
    refine mv_getR (pc := 6) (f := 2) (kc_0 l D E B sa) (Nat.le_of_ble_eq_true rfl) wt_1_148 de_PL_share_6 h1 (fun x6 e6 h6 => ?_)
    obtain ⟨a9, ha, h9a⟩ := mj_bindE h6
    subst ha
    refine mv_getI (pc := 9) (f := 1) (kc_3 l D E B sa) (Nat.le_of_ble_eq_true rfl) wt_1_92 de_PL_share_9 h9a (fun x9 e9 h9 => ?_)
    refine mv_icmp_ge (pc := 12) (tgt := 22) de_PL_share_12 (by decide) h9 (fun hc12 h12 => ?_) (fun hc12 h12 => ?_)
    · exact mv_sub [] rfl (tb_PL_share_22 l D E B sa M0 M1 r N M h12)
    · refine mv_iload_n (pc := 15) (i := 2) de_PL_share_15 rfl 2 rfl ?_
      obtain ⟨r16, Mm16, hz16, h16⟩ := mj_callE h12
      refine mv_callS (pc := 16) (n := 1) (av := [.int v2]) (rest := []) de_PL_share_16 (cm_PL_isSide l D E B sa N M v2 _ _ hz16) wt_2_165 wt_2_166 wt_1_1 wt_2_167 ⟨by decide, by decide, by decide +kernel⟩ rfl ⟨Nat.le_of_ble_eq_true rfl, Nat.le_of_ble_eq_true rfl⟩ (Nat.le_of_ble_eq_true rfl) rfl ?_
      refine mv_if_ne (pc := 19) (tgt := 26) de_PL_share_19 (by decide) h16 (fun hc19 h19 => ?_) (fun hc19 h19 => ?_)
      · exact mv_sub [] rfl (tb_PL_share_22 l D E B sa M0 M1 r N Mm16 h19)
      · refine mv_aload_n (pc := 26) (i := 0) de_PL_share_26 rfl 0 rfl ?_
        refine mv_getR (pc := 27) (f := 2) (kc_0 l D E B sa) (Nat.le_of_ble_eq_true rfl) wt_1_148 de_PL_share_27 h19 (fun x27 e27 h27 => ?_)
        refine mv_iload_n (pc := 30) (i := 1) de_PL_share_30 rfl 1 rfl ?_
        obtain ⟨a31, ha, h31a⟩ := mj_bindE h27
        subst ha
        obtain ⟨hi31, h31o⟩ := mj_obE h31a
        obtain ⟨r31, Mm31, hz31, h31⟩ := mj_callE h31o
        refine mv_callV (pc := 31) (n := 1) (av := [.int v1]) (rest := []) de_PL_share_31 (kc_3 l D E B sa) hi31 (cm_Py_shareOf l D E B sa N Mm16 a31 v1 _ _ hz31) wt_3_156 wt_3_157 wt_3_158 wt_1_5 wt_3_159 ⟨by decide, by decide, by decide +kernel⟩ rfl ⟨Nat.le_of_ble_eq_true rfl, Nat.le_of_ble_eq_true rfl⟩ (Nat.le_of_ble_eq_true rfl) rfl ?_
        refine mv_iload_n (pc := 34) (i := 2) de_PL_share_34 rfl 2 rfl ?_
        obtain ⟨r35, Mm35, hz35, h35⟩ := mj_callE h31
        refine mv_callS (pc := 35) (n := 2) (av := [.long r31, .int v2]) (rest := []) de_PL_share_35 (cm_Fr_sideOf l D E B sa N Mm31 r31 v2 _ _ hz35) wt_3_4 wt_3_5 wt_1_3 wt_3_6 ⟨by decide, by decide, by decide +kernel⟩ rfl ⟨Nat.le_of_ble_eq_true rfl, Nat.le_of_ble_eq_true rfl⟩ (Nat.le_of_ble_eq_true rfl) rfl ?_
        exact mv_lret (pc := 38) rfl de_PL_share_38 h35
theorem cm_PL_share (l : Launch) (D : va_G) (E : Nat → ClassId) (B : Nat) (sa : (Nat → Nat) × Nat × (Nat → Int32)) (N : Nat) (M : mv_M) (v0 : Nat) (v1 : Int32) (v2 : Int32) (r : Int64) (M1 : mv_M) (hJ : jf_PL_share N M v0 v1 v2 = some (r, M1)) : mv_Met (xg l D E B sa) yn_PL_share cd_PL_share 3 (some .long) 3 83 [va_rf (some v0), .int v1, .int v2] M (some (.long r)) M1 :=
  mv_enter (by decide) (Nat.le_of_ble_eq_true rfl) (mv_sub (lv := [(0, va_rf (some v0)), (1, .int v1), (2, .int v2)]) [0, 1, 2] rfl (tb_PL_share_0 l D E B sa M M1 r N M v0 v1 v2 hJ))
/-! ===== PlainLearner$Scores.addPair(IZ)I ===== -/
abbrev kd_Sc_addPair : mv_Kd := (cd_Sc_addPair, 3, "PlainLearner$Scores", "addPair", (some .int), 0, 0)
theorem de_Sc_addPair_0 : decode cd_Sc_addPair 0 = .ok (.aload_n 0, 1) := by decide +kernel
theorem de_Sc_addPair_1 : decode cd_Sc_addPair 1 = .ok (.getfield 19, 3) := by decide +kernel
theorem de_Sc_addPair_4 : decode cd_Sc_addPair 4 = .ok (.bipush 40, 2) := by decide +kernel
theorem de_Sc_addPair_6 : decode cd_Sc_addPair 6 = .ok (.if_icmp .lt 6, 3) := by decide +kernel
theorem de_Sc_addPair_9 : decode cd_Sc_addPair 9 = .ok (.bipush (-3), 2) := by decide +kernel
theorem de_Sc_addPair_11 : decode cd_Sc_addPair 11 = .ok (.ireturn, 1) := by decide +kernel
theorem de_Sc_addPair_12 : decode cd_Sc_addPair 12 = .ok (.aload_n 0, 1) := by decide +kernel
theorem de_Sc_addPair_13 : decode cd_Sc_addPair 13 = .ok (.getfield 11, 3) := by decide +kernel
theorem de_Sc_addPair_16 : decode cd_Sc_addPair 16 = .ok (.aload_n 0, 1) := by decide +kernel
theorem de_Sc_addPair_17 : decode cd_Sc_addPair 17 = .ok (.getfield 19, 3) := by decide +kernel
theorem de_Sc_addPair_20 : decode cd_Sc_addPair 20 = .ok (.iload_n 1, 1) := by decide +kernel
theorem de_Sc_addPair_21 : decode cd_Sc_addPair 21 = .ok (.iastore, 1) := by decide +kernel
theorem de_Sc_addPair_22 : decode cd_Sc_addPair 22 = .ok (.aload_n 0, 1) := by decide +kernel
theorem de_Sc_addPair_23 : decode cd_Sc_addPair 23 = .ok (.getfield 15, 3) := by decide +kernel
theorem de_Sc_addPair_26 : decode cd_Sc_addPair 26 = .ok (.aload_n 0, 1) := by decide +kernel
theorem de_Sc_addPair_27 : decode cd_Sc_addPair 27 = .ok (.getfield 19, 3) := by decide +kernel
theorem de_Sc_addPair_30 : decode cd_Sc_addPair 30 = .ok (.iload_n 2, 1) := by decide +kernel
theorem de_Sc_addPair_31 : decode cd_Sc_addPair 31 = .ok (.bastore, 1) := by decide +kernel
theorem de_Sc_addPair_32 : decode cd_Sc_addPair 32 = .ok (.aload_n 0, 1) := by decide +kernel
theorem de_Sc_addPair_33 : decode cd_Sc_addPair 33 = .ok (.dup, 1) := by decide +kernel
theorem de_Sc_addPair_34 : decode cd_Sc_addPair 34 = .ok (.getfield 19, 3) := by decide +kernel
theorem de_Sc_addPair_37 : decode cd_Sc_addPair 37 = .ok (.iconst 1, 1) := by decide +kernel
theorem de_Sc_addPair_38 : decode cd_Sc_addPair 38 = .ok (.iadd, 1) := by decide +kernel
theorem de_Sc_addPair_39 : decode cd_Sc_addPair 39 = .ok (.putfield 19, 3) := by decide +kernel
theorem de_Sc_addPair_42 : decode cd_Sc_addPair 42 = .ok (.aload_n 0, 1) := by decide +kernel
theorem de_Sc_addPair_43 : decode cd_Sc_addPair 43 = .ok (.getfield 19, 3) := by decide +kernel
theorem de_Sc_addPair_46 : decode cd_Sc_addPair 46 = .ok (.ireturn, 1) := by decide +kernel
def jb_Sc_addPair_0 (N : Nat) (M : mv_M) (v0 : Nat) (v1 : Int32) (v2 : Int32) : Option (Int32 × mv_M) :=
  Option.bind (mj_getI M v0 4 2) fun x1 =>
  if x1 < 40 then (Option.bind (mj_getR M v0 4 0) fun x13 =>
  Option.bind (mj_getI M v0 4 2) fun x17 =>
  Option.bind x13 fun a21 =>
  Option.bind (mj_ist M a21 0 x17 v1) fun Mm21 =>
  Option.bind (mj_getR Mm21 v0 4 1) fun x23 =>
  Option.bind (mj_getI Mm21 v0 4 2) fun x27 =>
  Option.bind x23 fun a31 =>
  Option.bind (mj_ist Mm21 a31 2 x27 (vp_nar .boolean v2)) fun Mm31 =>
  Option.bind (mj_getI Mm31 v0 4 2) fun x34 =>
  Option.bind (mj_put Mm31 v0 4 2 (.int (x34 + 1))) fun Mm39 =>
  Option.bind (mj_getI Mm39 v0 4 2) fun x43 =>
  some (x43, Mm39)) else
  some ((-3), M)
def jf_Sc_addPair (N : Nat) (M : mv_M) (v0 : Nat) (v1 : Int32) (v2 : Int32) : Option (Int32 × mv_M) := jb_Sc_addPair_0 N M v0 v1 v2
set_option maxHeartbeats 4000000 in
set_option maxRecDepth 100000 in
theorem tb_Sc_addPair_0 (l : Launch) (D : va_G) (E : Nat → ClassId) (B : Nat) (sa : (Nat → Nat) × Nat × (Nat → Int32)) (M0 M1 : mv_M) (r : Int32) (N : Nat) (M : mv_M) (v0 : Nat) (v1 : Int32) (v2 : Int32) (hJ : jb_Sc_addPair_0 N M v0 v1 v2 = some (r, M1)) : mv_G (xg l D E B sa) kd_Sc_addPair M0 M1 (some (.int r)) M 0 [(0, va_rf (some v0)), (1, .int v1), (2, .int v2)] [] := by
  unfold jb_Sc_addPair_0 at hJ
  refine mv_aload_n (pc := 0) (i := 0) de_Sc_addPair_0 rfl 0 rfl ?_
  refine mv_getI (pc := 1) (f := 2) (kc_4 l D E B sa) (Nat.le_of_ble_eq_true rfl) wt_1_106 de_Sc_addPair_1 hJ (fun x1 e1 h1 => ?_)
  refine mv_bipush (pc := 4) (v := 40) de_Sc_addPair_4 (by decide) ?_
  refine mv_icmp_lt (pc := 6) (tgt := 12) de_Sc_addPair_6 (by decide) h1 (fun hc6 h6 => ?_) (fun hc6 h6 => ?_)
  · refine mv_aload_n (pc := 12) (i := 0) de_Sc_addPair_12 rfl 0 rfl ?_
    refine mv_getR (pc := 13) (f := 0) (kc_4 l D E B sa) (Nat.le_of_ble_eq_true rfl) wt_1_104 de_Sc_addPair_13 h6 (fun x13 e13 h13 => ?_)
    refine mv_aload_n (pc := 16) (i := 0) de_Sc_addPair_16 rfl 0 rfl ?_
    refine mv_getI (pc := 17) (f := 2) (kc_4 l D E B sa) (Nat.le_of_ble_eq_true rfl) wt_1_106 de_Sc_addPair_17 h13 (fun x17 e17 h17 => ?_)
    refine mv_iload_n (pc := 20) (i := 1) de_Sc_addPair_20 rfl 1 rfl ?_
    obtain ⟨a21, ha, h21a⟩ := mj_bindE h17
    subst ha
    refine mv_iast (pc := 21) (t := 0) rfl de_Sc_addPair_21 h21a (fun Mm21 e21 h21 => ?_)
    refine mv_aload_n (pc := 22) (i := 0) de_Sc_addPair_22 rfl 0 rfl ?_
    refine mv_getR (pc := 23) (f := 1) (kc_4 l D E B sa) (Nat.le_of_ble_eq_true rfl) wt_1_105 de_Sc_addPair_23 h21 (fun x23 e23 h23 => ?_)
    refine mv_aload_n (pc := 26) (i := 0) de_Sc_addPair_26 rfl 0 rfl ?_
    refine mv_getI (pc := 27) (f := 2) (kc_4 l D E B sa) (Nat.le_of_ble_eq_true rfl) wt_1_106 de_Sc_addPair_27 h23 (fun x27 e27 h27 => ?_)
    refine mv_iload_n (pc := 30) (i := 2) de_Sc_addPair_30 rfl 2 rfl ?_
    obtain ⟨a31, ha, h31a⟩ := mj_bindE h27
    subst ha
    refine mv_zast (pc := 31) (t := 2) rfl de_Sc_addPair_31 h31a (fun Mm31 e31 h31 => ?_)
    refine mv_aload_n (pc := 32) (i := 0) de_Sc_addPair_32 rfl 0 rfl ?_
    refine mv_dup (pc := 33) de_Sc_addPair_33 rfl ?_
    refine mv_getI (pc := 34) (f := 2) (kc_4 l D E B sa) (Nat.le_of_ble_eq_true rfl) wt_1_106 de_Sc_addPair_34 h31 (fun x34 e34 h34 => ?_)
    refine mv_iconst (pc := 37) (v := 1) de_Sc_addPair_37 (by decide) ?_
    refine mv_iadd (pc := 38) de_Sc_addPair_38 ?_
    refine mv_put (pc := 39) (f := 2) (kc_4 l D E B sa) (Nat.le_of_ble_eq_true rfl) wt_1_106 rfl rfl rfl de_Sc_addPair_39 h34 (fun Mm39 e39 h39 => ?_)
    refine mv_aload_n (pc := 42) (i := 0) de_Sc_addPair_42 rfl 0 rfl ?_
    refine mv_getI (pc := 43) (f := 2) (kc_4 l D E B sa) (Nat.le_of_ble_eq_true rfl) wt_1_106 de_Sc_addPair_43 h39 (fun x43 e43 h43 => ?_)
    exact mv_iret (pc := 46) rfl de_Sc_addPair_46 h43
  · refine mv_bipush (pc := 9) (v := (-3)) de_Sc_addPair_9 (by decide) ?_
    exact mv_iret (pc := 11) rfl de_Sc_addPair_11 h6
theorem cm_Sc_addPair (l : Launch) (D : va_G) (E : Nat → ClassId) (B : Nat) (sa : (Nat → Nat) × Nat × (Nat → Int32)) (N : Nat) (M : mv_M) (v0 : Nat) (v1 : Int32) (v2 : Int32) (r : Int32) (M1 : mv_M) (hJ : jf_Sc_addPair N M v0 v1 v2 = some (r, M1)) : mv_Met (xg l D E B sa) yn_Sc_addPair cd_Sc_addPair 3 (some .int) 0 0 [va_rf (some v0), .int v1, .int v2] M (some (.int r)) M1 :=
  mv_enter (by decide) (Nat.le_of_ble_eq_true rfl) (mv_sub (lv := [(0, va_rf (some v0)), (1, .int v1), (2, .int v2)]) [0, 1, 2] rfl (tb_Sc_addPair_0 l D E B sa M M1 r N M v0 v1 v2 hJ))
/-! ===== PlainLearner.pair(IZ)I ===== -/
abbrev kd_PL_pair : mv_Kd := (cd_PL_pair, 3, "PlainLearner", "pair", (some .int), 1, 22)
theorem de_PL_pair_0 : decode cd_PL_pair 0 = .ok (.aload_n 0, 1) := by decide +kernel
theorem de_PL_pair_1 : decode cd_PL_pair 1 = .ok (.getfield 33, 3) := by decide +kernel
theorem de_PL_pair_4 : decode cd_PL_pair 4 = .ok (.iload_n 1, 1) := by decide +kernel
theorem de_PL_pair_5 : decode cd_PL_pair 5 = .ok (.iload_n 2, 1) := by decide +kernel
theorem de_PL_pair_6 : decode cd_PL_pair 6 = .ok (.invokevirtual 156, 3) := by decide +kernel
theorem de_PL_pair_9 : decode cd_PL_pair 9 = .ok (.ireturn, 1) := by decide +kernel
def jb_PL_pair_0 (N : Nat) (M : mv_M) (v0 : Nat) (v1 : Int32) (v2 : Int32) : Option (Int32 × mv_M) :=
  Option.bind (mj_getR M v0 0 3) fun x1 =>
  Option.bind x1 fun a6 =>
  mj_ob M a6 4 <|
  mj_call (jf_Sc_addPair N M a6 v1 v2) fun r6 Mm6 =>
  some (r6, Mm6)
def jf_PL_pair (N : Nat) (M : mv_M) (v0 : Nat) (v1 : Int32) (v2 : Int32) : Option (Int32 × mv_M) := jb_PL_pair_0 N M v0 v1 v2
set_option maxHeartbeats 4000000 in
set_option maxRecDepth 100000 in
theorem tb_PL_pair_0 (l : Launch) (D : va_G) (E : Nat → ClassId) (B : Nat) (sa : (Nat → Nat) × Nat × (Nat → Int32)) (M0 M1 : mv_M) (r : Int32) (N : Nat) (M : mv_M) (v0 : Nat) (v1 : Int32) (v2 : Int32) (hJ : jb_PL_pair_0 N M v0 v1 v2 = some (r, M1)) : mv_G (xg l D E B sa) kd_PL_pair M0 M1 (some (.int r)) M 0 [(0, va_rf (some v0)), (1, .int v1), (2, .int v2)] [] := by
  unfold jb_PL_pair_0 at hJ
  refine mv_aload_n (pc := 0) (i := 0) de_PL_pair_0 rfl 0 rfl ?_
  refine mv_getR (pc := 1) (f := 3) (kc_0 l D E B sa) (Nat.le_of_ble_eq_true rfl) wt_1_149 de_PL_pair_1 hJ (fun x1 e1 h1 => ?_)
  refine mv_iload_n (pc := 4) (i := 1) de_PL_pair_4 rfl 1 rfl ?_
  refine mv_iload_n (pc := 5) (i := 2) de_PL_pair_5 rfl 2 rfl ?_
  obtain ⟨a6, ha, h6a⟩ := mj_bindE h1
  subst ha
  obtain ⟨hi6, h6o⟩ := mj_obE h6a
  obtain ⟨r6, Mm6, hz6, h6⟩ := mj_callE h6o
  refine mv_callV (pc := 6) (n := 2) (av := [.int v1, .int v2]) (rest := []) de_PL_pair_6 (kc_4 l D E B sa) hi6 (cm_Sc_addPair l D E B sa N M a6 v1 v2 _ _ hz6) wt_3_173 wt_3_174 wt_3_175 wt_1_6 wt_3_176 ⟨by decide, by decide, by decide +kernel⟩ rfl ⟨Nat.le_of_ble_eq_true rfl, Nat.le_of_ble_eq_true rfl⟩ (Nat.le_of_ble_eq_true rfl) rfl ?_
  exact mv_iret (pc := 9) rfl de_PL_pair_9 h6
theorem cm_PL_pair (l : Launch) (D : va_G) (E : Nat → ClassId) (B : Nat) (sa : (Nat → Nat) × Nat × (Nat → Int32)) (N : Nat) (M : mv_M) (v0 : Nat) (v1 : Int32) (v2 : Int32) (r : Int32) (M1 : mv_M) (hJ : jf_PL_pair N M v0 v1 v2 = some (r, M1)) : mv_Met (xg l D E B sa) yn_PL_pair cd_PL_pair 3 (some .int) 1 22 [va_rf (some v0), .int v1, .int v2] M (some (.int r)) M1 :=
  mv_enter (by decide) (Nat.le_of_ble_eq_true rfl) (mv_sub (lv := [(0, va_rf (some v0)), (1, .int v1), (2, .int v2)]) [0, 1, 2] rfl (tb_PL_pair_0 l D E B sa M M1 r N M v0 v1 v2 hJ))
/-! ===== PlainLearner$Scores.countYes()I ===== -/
abbrev kd_Sc_countYes : mv_Kd := (cd_Sc_countYes, 3, "PlainLearner$Scores", "countYes", (some .int), 0, 0)
theorem de_Sc_countYes_0 : decode cd_Sc_countYes 0 = .ok (.iconst 0, 1) := by decide +kernel
theorem de_Sc_countYes_1 : decode cd_Sc_countYes 1 = .ok (.istore_n 1, 1) := by decide +kernel
theorem de_Sc_countYes_2 : decode cd_Sc_countYes 2 = .ok (.iconst 0, 1) := by decide +kernel
theorem de_Sc_countYes_3 : decode cd_Sc_countYes 3 = .ok (.istore_n 2, 1) := by decide +kernel
theorem de_Sc_countYes_4 : decode cd_Sc_countYes 4 = .ok (.iload_n 2, 1) := by decide +kernel
theorem de_Sc_countYes_5 : decode cd_Sc_countYes 5 = .ok (.aload_n 0, 1) := by decide +kernel
theorem de_Sc_countYes_6 : decode cd_Sc_countYes 6 = .ok (.getfield 19, 3) := by decide +kernel
theorem de_Sc_countYes_9 : decode cd_Sc_countYes 9 = .ok (.if_icmp .ge 21, 3) := by decide +kernel
theorem de_Sc_countYes_12 : decode cd_Sc_countYes 12 = .ok (.aload_n 0, 1) := by decide +kernel
theorem de_Sc_countYes_13 : decode cd_Sc_countYes 13 = .ok (.getfield 15, 3) := by decide +kernel
theorem de_Sc_countYes_16 : decode cd_Sc_countYes 16 = .ok (.iload_n 2, 1) := by decide +kernel
theorem de_Sc_countYes_17 : decode cd_Sc_countYes 17 = .ok (.baload, 1) := by decide +kernel
theorem de_Sc_countYes_18 : decode cd_Sc_countYes 18 = .ok (.ifCond .eq 6, 3) := by decide +kernel
theorem de_Sc_countYes_21 : decode cd_Sc_countYes 21 = .ok (.iinc 1 1, 3) := by decide +kernel
theorem de_Sc_countYes_24 : decode cd_Sc_countYes 24 = .ok (.iinc 2 1, 3) := by decide +kernel
theorem de_Sc_countYes_27 : decode cd_Sc_countYes 27 = .ok (.goto (-23), 3) := by decide +kernel
theorem de_Sc_countYes_30 : decode cd_Sc_countYes 30 = .ok (.iload_n 1, 1) := by decide +kernel
theorem de_Sc_countYes_31 : decode cd_Sc_countYes 31 = .ok (.ireturn, 1) := by decide +kernel
def jb_Sc_countYes_24 (N : Nat) (k4 : mv_M → Nat → Int32 → Int32 → Option (Int32 × mv_M)) (M : mv_M) (v0 : Nat) (v1 : Int32) (v2 : Int32) : Option (Int32 × mv_M) :=
  k4 M v0 v1 (v2 + 1)
def jb_Sc_countYes_4 (N : Nat) : Nat → mv_M → Nat → Int32 → Int32 → Option (Int32 × mv_M)
  | 0, _, _, _, _ => none
  | n + 1, M, v0, v1, v2 =>
    Option.bind (mj_getI M v0 4 2) fun x6 =>
    if x6 ≤ v2 then (some (v1, M)) else
    Option.bind (mj_getR M v0 4 1) fun x13 =>
    Option.bind x13 fun a17 =>
    Option.bind (mj_ild M a17 2 v2) fun x17 =>
    if x17 = 0 then (jb_Sc_countYes_24 N (jb_Sc_countYes_4 N n) M v0 v1 v2) else
    jb_Sc_countYes_24 N (jb_Sc_countYes_4 N n) M v0 (v1 + 1) v2
def jb_Sc_countYes_0 (N : Nat) (M : mv_M) (v0 : Nat) : Option (Int32 × mv_M) :=
  jb_Sc_countYes_4 N N M v0 0 0
def jf_Sc_countYes (N : Nat) (M : mv_M) (v0 : Nat) : Option (Int32 × mv_M) := jb_Sc_countYes_0 N M v0
set_option maxHeartbeats 4000000 in
set_option maxRecDepth 100000 in
theorem tb_Sc_countYes_24 (l : Launch) (D : va_G) (E : Nat → ClassId) (B : Nat) (sa : (Nat → Nat) × Nat × (Nat → Int32)) (M0 M1 : mv_M) (r : Int32) (N : Nat) (k4 : mv_M → Nat → Int32 → Int32 → Option (Int32 × mv_M)) (hk4 : ∀ (M : mv_M) (v0 : Nat) (v1 : Int32) (v2 : Int32), k4 M v0 v1 v2 = some (r, M1) → mv_G (xg l D E B sa) kd_Sc_countYes M0 M1 (some (.int r)) M 4 [(0, va_rf (some v0)), (1, .int v1), (2, .int v2)] []) (M : mv_M) (v0 : Nat) (v1 : Int32) (v2 : Int32) (hJ : jb_Sc_countYes_24 N k4 M v0 v1 v2 = some (r, M1)) : mv_G (xg l D E B sa) kd_Sc_countYes M0 M1 (some (.int r)) M 24 [(0, va_rf (some v0)), (1, .int v1), (2, .int v2)] [] := by
  unfold jb_Sc_countYes_24 at hJ
  refine mv_iinc (pc := 24) (v := (v2 + 1)) (lv' := [(2, .int (v2 + 1)), (0, va_rf (some v0)), (1, .int v1)]) de_Sc_countYes_24 2 rfl rfl (Nat.le_of_ble_eq_true rfl) rfl ?_
  refine mv_goto (pc := 27) (tgt := 4) de_Sc_countYes_27 (by decide) ?_
  exact mv_sub [1, 2, 0] rfl (hk4 M v0 v1 (v2 + 1) hJ)
set_option maxHeartbeats 4000000 in
set_option maxRecDepth 100000 in
theorem tb_Sc_countYes_4 (l : Launch) (D : va_G) (E : Nat → ClassId) (B : Nat) (sa : (Nat → Nat) × Nat × (Nat → Int32)) (M0 M1 : mv_M) (r : Int32) (N : Nat) : ∀ (n : Nat) (M : mv_M) (v0 : Nat) (v1 : Int32) (v2 : Int32) (hJ : jb_Sc_countYes_4 N n M v0 v1 v2 = some (r, M1)), mv_G (xg l D E B sa) kd_Sc_countYes M0 M1 (some (.int r)) M 4 [(0, va_rf (some v0)), (1, .int v1), (2, .int v2)] [] := by
  intro n
  induction n with
  | zero => intro M v0 v1 v2 hJ; cases hJ
  | succ n ih =>
    intro M v0 v1 v2 hJ
    rw [jb_Sc_countYes_4] at hJ
    refine mv_iload_n (pc := 4) (i := 2) de_Sc_countYes_4 rfl 2 rfl ?_
    refine mv_aload_n (pc := 5) (i := 0) de_Sc_countYes_5 rfl 0 rfl ?_
    refine mv_getI (pc := 6) (f := 2) (kc_4 l D E B sa) (Nat.le_of_ble_eq_true rfl) wt_1_106 de_Sc_countYes_6 hJ (fun x6 e6 h6 => ?_)
    refine mv_icmp_ge (pc := 9) (tgt := 30) de_Sc_countYes_9 (by decide) h6 (fun hc9 h9 => ?_) (fun hc9 h9 => ?_)
    · refine mv_iload_n (pc := 30) (i := 1) de_Sc_countYes_30 rfl 1 rfl ?_
      exact mv_iret (pc := 31) rfl de_Sc_countYes_31 h9
    · refine mv_aload_n (pc := 12) (i := 0) de_Sc_countYes_12 rfl 0 rfl ?_
      refine mv_getR (pc := 13) (f := 1) (kc_4 l D E B sa) (Nat.le_of_ble_eq_true rfl) wt_1_105 de_Sc_countYes_13 h9 (fun x13 e13 h13 => ?_)
      refine mv_iload_n (pc := 16) (i := 2) de_Sc_countYes_16 rfl 2 rfl ?_
      obtain ⟨a17, ha, h17a⟩ := mj_bindE h13
      subst ha
      refine mv_zald (pc := 17) (t := 2) rfl de_Sc_countYes_17 h17a (fun x17 e17 h17 => ?_)
      refine mv_if_eq (pc := 18) (tgt := 24) de_Sc_countYes_18 (by decide) h17 (fun hc18 h18 => ?_) (fun hc18 h18 => ?_)
      · exact mv_sub [0, 1, 2] rfl (tb_Sc_countYes_24 l D E B sa M0 M1 r N (jb_Sc_countYes_4 N n) ih M v0 v1 v2 h18)
      · refine mv_iinc (pc := 21) (v := (v1 + 1)) (lv' := [(1, .int (v1 + 1)), (0, va_rf (some v0)), (2, .int v2)]) de_Sc_countYes_21 1 rfl rfl (Nat.le_of_ble_eq_true rfl) rfl ?_
        exact mv_sub [1, 0, 2] rfl (tb_Sc_countYes_24 l D E B sa M0 M1 r N (jb_Sc_countYes_4 N n) ih M v0 (v1 + 1) v2 h18)
set_option maxHeartbeats 4000000 in
set_option maxRecDepth 100000 in
theorem tb_Sc_countYes_0 (l : Launch) (D : va_G) (E : Nat → ClassId) (B : Nat) (sa : (Nat → Nat) × Nat × (Nat → Int32)) (M0 M1 : mv_M) (r : Int32) (N : Nat) (M : mv_M) (v0 : Nat) (hJ : jb_Sc_countYes_0 N M v0 = some (r, M1)) : mv_G (xg l D E B sa) kd_Sc_countYes M0 M1 (some (.int r)) M 0 [(0, va_rf (some v0))] [] := by
  unfold jb_Sc_countYes_0 at hJ
  refine mv_iconst (pc := 0) (v := 0) de_Sc_countYes_0 (by decide) ?_
  refine mv_istore_n (pc := 1) (i := 1) (lv' := [(1, .int 0), (0, va_rf (some v0))]) de_Sc_countYes_1 rfl (Nat.le_of_ble_eq_true rfl) rfl ?_
  refine mv_iconst (pc := 2) (v := 0) de_Sc_countYes_2 (by decide) ?_
  refine mv_istore_n (pc := 3) (i := 2) (lv' := [(2, .int 0), (1, .int 0), (0, va_rf (some v0))]) de_Sc_countYes_3 rfl (Nat.le_of_ble_eq_true rfl) rfl ?_
  exact mv_sub [2, 1, 0] rfl (tb_Sc_countYes_4 l D E B sa M0 M1 r N N M v0 0 0 hJ)
theorem cm_Sc_countYes (l : Launch) (D : va_G) (E : Nat → ClassId) (B : Nat) (sa : (Nat → Nat) × Nat × (Nat → Int32)) (N : Nat) (M : mv_M) (v0 : Nat) (r : Int32) (M1 : mv_M) (hJ : jf_Sc_countYes N M v0 = some (r, M1)) : mv_Met (xg l D E B sa) yn_Sc_countYes cd_Sc_countYes 3 (some .int) 0 0 [va_rf (some v0)] M (some (.int r)) M1 :=
  mv_enter (by decide) (Nat.le_of_ble_eq_true rfl) (mv_sub (lv := [(0, va_rf (some v0))]) [0] rfl (tb_Sc_countYes_0 l D E B sa M M1 r N M v0 hJ))
/-! ===== PlainLearner$Scores.shareInOrder()J ===== -/
abbrev kd_Sc_shareInOrder : mv_Kd := (cd_Sc_shareInOrder, 4, "PlainLearner$Scores", "shareInOrder", (some .long), 2, 55)
theorem de_Sc_shareInOrder_0 : decode cd_Sc_shareInOrder 0 = .ok (.iconst 0, 1) := by decide +kernel
theorem de_Sc_shareInOrder_1 : decode cd_Sc_shareInOrder 1 = .ok (.istore_n 1, 1) := by decide +kernel
theorem de_Sc_shareInOrder_2 : decode cd_Sc_shareInOrder 2 = .ok (.iconst 0, 1) := by decide +kernel
theorem de_Sc_shareInOrder_3 : decode cd_Sc_shareInOrder 3 = .ok (.istore_n 2, 1) := by decide +kernel
theorem de_Sc_shareInOrder_4 : decode cd_Sc_shareInOrder 4 = .ok (.iload_n 2, 1) := by decide +kernel
theorem de_Sc_shareInOrder_5 : decode cd_Sc_shareInOrder 5 = .ok (.aload_n 0, 1) := by decide +kernel
theorem de_Sc_shareInOrder_6 : decode cd_Sc_shareInOrder 6 = .ok (.getfield 19, 3) := by decide +kernel
theorem de_Sc_shareInOrder_9 : decode cd_Sc_shareInOrder 9 = .ok (.if_icmp .ge 85, 3) := by decide +kernel
theorem de_Sc_shareInOrder_12 : decode cd_Sc_shareInOrder 12 = .ok (.iconst 0, 1) := by decide +kernel
theorem de_Sc_shareInOrder_13 : decode cd_Sc_shareInOrder 13 = .ok (.istore_n 3, 1) := by decide +kernel
theorem de_Sc_shareInOrder_14 : decode cd_Sc_shareInOrder 14 = .ok (.iload_n 3, 1) := by decide +kernel
theorem de_Sc_shareInOrder_15 : decode cd_Sc_shareInOrder 15 = .ok (.aload_n 0, 1) := by decide +kernel
theorem de_Sc_shareInOrder_16 : decode cd_Sc_shareInOrder 16 = .ok (.getfield 19, 3) := by decide +kernel
theorem de_Sc_shareInOrder_19 : decode cd_Sc_shareInOrder 19 = .ok (.if_icmp .ge 69, 3) := by decide +kernel
theorem de_Sc_shareInOrder_22 : decode cd_Sc_shareInOrder 22 = .ok (.aload_n 0, 1) := by decide +kernel
theorem de_Sc_shareInOrder_23 : decode cd_Sc_shareInOrder 23 = .ok (.getfield 15, 3) := by decide +kernel
theorem de_Sc_shareInOrder_26 : decode cd_Sc_shareInOrder 26 = .ok (.iload_n 2, 1) := by decide +kernel
theorem de_Sc_shareInOrder_27 : decode cd_Sc_shareInOrder 27 = .ok (.baload, 1) := by decide +kernel
theorem de_Sc_shareInOrder_28 : decode cd_Sc_shareInOrder 28 = .ok (.ifCond .eq 54, 3) := by decide +kernel
theorem de_Sc_shareInOrder_31 : decode cd_Sc_shareInOrder 31 = .ok (.aload_n 0, 1) := by decide +kernel
theorem de_Sc_shareInOrder_32 : decode cd_Sc_shareInOrder 32 = .ok (.getfield 15, 3) := by decide +kernel
theorem de_Sc_shareInOrder_35 : decode cd_Sc_shareInOrder 35 = .ok (.iload_n 3, 1) := by decide +kernel
theorem de_Sc_shareInOrder_36 : decode cd_Sc_shareInOrder 36 = .ok (.baload, 1) := by decide +kernel
theorem de_Sc_shareInOrder_37 : decode cd_Sc_shareInOrder 37 = .ok (.ifCond .ne 45, 3) := by decide +kernel
theorem de_Sc_shareInOrder_40 : decode cd_Sc_shareInOrder 40 = .ok (.iload_n 1, 1) := by decide +kernel
theorem de_Sc_shareInOrder_41 : decode cd_Sc_shareInOrder 41 = .ok (.aload_n 0, 1) := by decide +kernel
theorem de_Sc_shareInOrder_42 : decode cd_Sc_shareInOrder 42 = .ok (.getfield 11, 3) := by decide +kernel
theorem de_Sc_shareInOrder_45 : decode cd_Sc_shareInOrder 45 = .ok (.iload_n 2, 1) := by decide +kernel
theorem de_Sc_shareInOrder_46 : decode cd_Sc_shareInOrder 46 = .ok (.iaload, 1) := by decide +kernel
theorem de_Sc_shareInOrder_47 : decode cd_Sc_shareInOrder 47 = .ok (.aload_n 0, 1) := by decide +kernel
theorem de_Sc_shareInOrder_48 : decode cd_Sc_shareInOrder 48 = .ok (.getfield 11, 3) := by decide +kernel
theorem de_Sc_shareInOrder_51 : decode cd_Sc_shareInOrder 51 = .ok (.iload_n 3, 1) := by decide +kernel
theorem de_Sc_shareInOrder_52 : decode cd_Sc_shareInOrder 52 = .ok (.iaload, 1) := by decide +kernel
theorem de_Sc_shareInOrder_53 : decode cd_Sc_shareInOrder 53 = .ok (.if_icmp .le 7, 3) := by decide +kernel
theorem de_Sc_shareInOrder_56 : decode cd_Sc_shareInOrder 56 = .ok (.iconst 2, 1) := by decide +kernel
theorem de_Sc_shareInOrder_57 : decode cd_Sc_shareInOrder 57 = .ok (.goto 23, 3) := by decide +kernel
theorem de_Sc_shareInOrder_60 : decode cd_Sc_shareInOrder 60 = .ok (.aload_n 0, 1) := by decide +kernel
theorem de_Sc_shareInOrder_61 : decode cd_Sc_shareInOrder 61 = .ok (.getfield 11, 3) := by decide +kernel
theorem de_Sc_shareInOrder_64 : decode cd_Sc_shareInOrder 64 = .ok (.iload_n 2, 1) := by decide +kernel
theorem de_Sc_shareInOrder_65 : decode cd_Sc_shareInOrder 65 = .ok (.iaload, 1) := by decide +kernel
theorem de_Sc_shareInOrder_66 : decode cd_Sc_shareInOrder 66 = .ok (.aload_n 0, 1) := by decide +kernel
theorem de_Sc_shareInOrder_67 : decode cd_Sc_shareInOrder 67 = .ok (.getfield 11, 3) := by decide +kernel
theorem de_Sc_shareInOrder_70 : decode cd_Sc_shareInOrder 70 = .ok (.iload_n 3, 1) := by decide +kernel
theorem de_Sc_shareInOrder_71 : decode cd_Sc_shareInOrder 71 = .ok (.iaload, 1) := by decide +kernel
theorem de_Sc_shareInOrder_72 : decode cd_Sc_shareInOrder 72 = .ok (.if_icmp .ne 7, 3) := by decide +kernel
theorem de_Sc_shareInOrder_75 : decode cd_Sc_shareInOrder 75 = .ok (.iconst 1, 1) := by decide +kernel
theorem de_Sc_shareInOrder_76 : decode cd_Sc_shareInOrder 76 = .ok (.goto 4, 3) := by decide +kernel
theorem de_Sc_shareInOrder_79 : decode cd_Sc_shareInOrder 79 = .ok (.iconst 0, 1) := by decide +kernel
theorem de_Sc_shareInOrder_80 : decode cd_Sc_shareInOrder 80 = .ok (.iadd, 1) := by decide +kernel
theorem de_Sc_shareInOrder_81 : decode cd_Sc_shareInOrder 81 = .ok (.istore_n 1, 1) := by decide +kernel
theorem de_Sc_shareInOrder_82 : decode cd_Sc_shareInOrder 82 = .ok (.iinc 3 1, 3) := by decide +kernel
theorem de_Sc_shareInOrder_85 : decode cd_Sc_shareInOrder 85 = .ok (.goto (-71), 3) := by decide +kernel
theorem de_Sc_shareInOrder_88 : decode cd_Sc_shareInOrder 88 = .ok (.iinc 2 1, 3) := by decide +kernel
theorem de_Sc_shareInOrder_91 : decode cd_Sc_shareInOrder 91 = .ok (.goto (-87), 3) := by decide +kernel
theorem de_Sc_shareInOrder_94 : decode cd_Sc_shareInOrder 94 = .ok (.aload_n 0, 1) := by decide +kernel
theorem de_Sc_shareInOrder_95 : decode cd_Sc_shareInOrder 95 = .ok (.invokevirtual 36, 3) := by decide +kernel
theorem de_Sc_shareInOrder_98 : decode cd_Sc_shareInOrder 98 = .ok (.istore_n 2, 1) := by decide +kernel
theorem de_Sc_shareInOrder_99 : decode cd_Sc_shareInOrder 99 = .ok (.iload_n 1, 1) := by decide +kernel
theorem de_Sc_shareInOrder_100 : decode cd_Sc_shareInOrder 100 = .ok (.i2l, 1) := by decide +kernel
theorem de_Sc_shareInOrder_101 : decode cd_Sc_shareInOrder 101 = .ok (.ldc2_w 40, 3) := by decide +kernel
theorem de_Sc_shareInOrder_104 : decode cd_Sc_shareInOrder 104 = .ok (.iload_n 2, 1) := by decide +kernel
theorem de_Sc_shareInOrder_105 : decode cd_Sc_shareInOrder 105 = .ok (.i2l, 1) := by decide +kernel
theorem de_Sc_shareInOrder_106 : decode cd_Sc_shareInOrder 106 = .ok (.lmul, 1) := by decide +kernel
theorem de_Sc_shareInOrder_107 : decode cd_Sc_shareInOrder 107 = .ok (.aload_n 0, 1) := by decide +kernel
theorem de_Sc_shareInOrder_108 : decode cd_Sc_shareInOrder 108 = .ok (.getfield 19, 3) := by decide +kernel
theorem de_Sc_shareInOrder_111 : decode cd_Sc_shareInOrder 111 = .ok (.iload_n 2, 1) := by decide +kernel
theorem de_Sc_shareInOrder_112 : decode cd_Sc_shareInOrder 112 = .ok (.isub, 1) := by decide +kernel
theorem de_Sc_shareInOrder_113 : decode cd_Sc_shareInOrder 113 = .ok (.i2l, 1) := by decide +kernel
theorem de_Sc_shareInOrder_114 : decode cd_Sc_shareInOrder 114 = .ok (.lmul, 1) := by decide +kernel
theorem de_Sc_shareInOrder_115 : decode cd_Sc_shareInOrder 115 = .ok (.invokestatic 42, 3) := by decide +kernel
theorem de_Sc_shareInOrder_118 : decode cd_Sc_shareInOrder 118 = .ok (.lreturn, 1) := by decide +kernel
def jb_Sc_shareInOrder_82 (N : Nat) (k4 : mv_M → Nat → Int32 → Int32 → Option (Int64 × mv_M)) (k14 : mv_M → Nat → Int32 → Int32 → Int32 → Option (Int64 × mv_M)) (M : mv_M) (v0 : Nat) (v1 : Int32) (v2 : Int32) (v3 : Int32) : Option (Int64 × mv_M) :=
  k14 M v0 v1 v2 (v3 + 1)
def jb_Sc_shareInOrder_80 (N : Nat) (k4 : mv_M → Nat → Int32 → Int32 → Option (Int64 × mv_M)) (k14 : mv_M → Nat → Int32 → Int32 → Int32 → Option (Int64 × mv_M)) (M : mv_M) (v0 : Nat) (v2 : Int32) (v3 : Int32) (s0 : Int32) (s1 : Int32) : Option (Int64 × mv_M) :=
  jb_Sc_shareInOrder_82 N k4 k14 M v0 (s0 + s1) v2 v3
def jb_Sc_shareInOrder_14 (N : Nat) (k4 : mv_M → Nat → Int32 → Int32 → Option (Int64 × mv_M)) : Nat → mv_M → Nat → Int32 → Int32 → Int32 → Option (Int64 × mv_M)
  | 0, _, _, _, _, _ => none
  | n + 1, M, v0, v1, v2, v3 =>
    Option.bind (mj_getI M v0 4 2) fun x16 =>
    if x16 ≤ v3 then (k4 M v0 v1 (v2 + 1)) else
    Option.bind (mj_getR M v0 4 1) fun x23 =>
    Option.bind x23 fun a27 =>
    Option.bind (mj_ild M a27 2 v2) fun x27 =>
    if x27 = 0 then (jb_Sc_shareInOrder_82 N k4 (jb_Sc_shareInOrder_14 N k4 n) M v0 v1 v2 v3) else
    Option.bind (mj_getR M v0 4 1) fun x32 =>
    Option.bind x32 fun a36 =>
    Option.bind (mj_ild M a36 2 v3) fun x36 =>
    if x36 = 0 then (Option.bind (mj_getR M v0 4 0) fun x42 =>
    Option.bind x42 fun a46 =>
    Option.bind (mj_ild M a46 0 v2) fun x46 =>
    Option.bind (mj_getR M v0 4 0) fun x48 =>
    Option.bind x48 fun a52 =>
    Option.bind (mj_ild M a52 0 v3) fun x52 =>
    if x46 ≤ x52 then (Option.bind (mj_getR M v0 4 0) fun x61 =>
    Option.bind x61 fun a65 =>
    Option.bind (mj_ild M a65 0 v2) fun x65 =>
    Option.bind (mj_getR M v0 4 0) fun x67 =>
    Option.bind x67 fun a71 =>
    Option.bind (mj_ild M a71 0 v3) fun x71 =>
    if x65 = x71 then (jb_Sc_shareInOrder_80 N k4 (jb_Sc_shareInOrder_14 N k4 n) M v0 v2 v3 v1 1) else
    jb_Sc_shareInOrder_80 N k4 (jb_Sc_shareInOrder_14 N k4 n) M v0 v2 v3 v1 0) else
    jb_Sc_shareInOrder_80 N k4 (jb_Sc_shareInOrder_14 N k4 n) M v0 v2 v3 v1 2) else
    jb_Sc_shareInOrder_82 N k4 (jb_Sc_shareInOrder_14 N k4 n) M v0 v1 v2 v3
def jb_Sc_shareInOrder_4 (N : Nat) : Nat → mv_M → Nat → Int32 → Int32 → Option (Int64 × mv_M)
  | 0, _, _, _, _ => none
  | n + 1, M, v0, v1, v2 =>
    Option.bind (mj_getI M v0 4 2) fun x6 =>
    if x6 ≤ v2 then (mj_ob M v0 4 <|
    mj_call (jf_Sc_countYes N M v0) fun r95 Mm95 =>
    Option.bind (mj_getI Mm95 v0 4 2) fun x108 =>
    mj_call (jf_Fr_of N Mm95 v1.toInt64 ((2 * r95.toInt64) * (x108 - r95).toInt64)) fun r115 Mm115 =>
    some (r115, Mm115)) else
    jb_Sc_shareInOrder_14 N (jb_Sc_shareInOrder_4 N n) N M v0 v1 v2 0
def jb_Sc_shareInOrder_0 (N : Nat) (M : mv_M) (v0 : Nat) : Option (Int64 × mv_M) :=
  jb_Sc_shareInOrder_4 N N M v0 0 0
def jf_Sc_shareInOrder (N : Nat) (M : mv_M) (v0 : Nat) : Option (Int64 × mv_M) := jb_Sc_shareInOrder_0 N M v0
set_option maxHeartbeats 4000000 in
set_option maxRecDepth 100000 in
theorem tb_Sc_shareInOrder_82 (l : Launch) (D : va_G) (E : Nat → ClassId) (B : Nat) (sa : (Nat → Nat) × Nat × (Nat → Int32)) (M0 M1 : mv_M) (r : Int64) (N : Nat) (k4 : mv_M → Nat → Int32 → Int32 → Option (Int64 × mv_M)) (k14 : mv_M → Nat → Int32 → Int32 → Int32 → Option (Int64 × mv_M)) (hk4 : ∀ (M : mv_M) (v0 : Nat) (v1 : Int32) (v2 : Int32), k4 M v0 v1 v2 = some (r, M1) → mv_G (xg l D E B sa) kd_Sc_shareInOrder M0 M1 (some (.long r)) M 4 [(0, va_rf (some v0)), (1, .int v1), (2, .int v2)] []) (hk14 : ∀ (M : mv_M) (v0 : Nat) (v1 : Int32) (v2 : Int32) (v3 : Int32), k14 M v0 v1 v2 v3 = some (r, M1) → mv_G (xg l D E B sa) kd_Sc_shareInOrder M0 M1 (some (.long r)) M 14 [(0, va_rf (some v0)), (1, .int v1), (2, .int v2), (3, .int v3)] []) (M : mv_M) (v0 : Nat) (v1 : Int32) (v2 : Int32) (v3 : Int32) (hJ : jb_Sc_shareInOrder_82 N k4 k14 M v0 v1 v2 v3 = some (r, M1)) : mv_G (xg l D E B sa) kd_Sc_shareInOrder M0 M1 (some (.long r)) M 82 [(0, va_rf (some v0)), (1, .int v1), (2, .int v2), (3, .int v3)] [] := by
  unfold jb_Sc_shareInOrder_82 at hJ
  refine mv_iinc (pc := 82) (v := (v3 + 1)) (lv' := [(3, .int (v3 + 1)), (0, va_rf (some v0)), (1, .int v1), (2, .int v2)]) de_Sc_shareInOrder_82 3 rfl rfl (Nat.le_of_ble_eq_true rfl) rfl ?_
  refine mv_goto (pc := 85) (tgt := 14) de_Sc_shareInOrder_85 (by decide) ?_
  exact mv_sub [1, 2, 3, 0] rfl (hk14 M v0 v1 v2 (v3 + 1) hJ)
set_option maxHeartbeats 4000000 in
set_option maxRecDepth 100000 in
theorem tb_Sc_shareInOrder_80 (l : Launch) (D : va_G) (E : Nat → ClassId) (B : Nat) (sa : (Nat → Nat) × Nat × (Nat → Int32)) (M0 M1 : mv_M) (r : Int64) (N : Nat) (k4 : mv_M → Nat → Int32 → Int32 → Option (Int64 × mv_M)) (k14 : mv_M → Nat → Int32 → Int32 → Int32 → Option (Int64 × mv_M)) (hk4 : ∀ (M : mv_M) (v0 : Nat) (v1 : Int32) (v2 : Int32), k4 M v0 v1 v2 = some (r, M1) → mv_G (xg l D E B sa) kd_Sc_shareInOrder M0 M1 (some (.long r)) M 4 [(0, va_rf (some v0)), (1, .int v1), (2, .int v2)] []) (hk14 : ∀ (M : mv_M) (v0 : Nat) (v1 : Int32) (v2 : Int32) (v3 : Int32), k14 M v0 v1 v2 v3 = some (r, M1) → mv_G (xg l D E B sa) kd_Sc_shareInOrder M0 M1 (some (.long r)) M 14 [(0, va_rf (some v0)), (1, .int v1), (2, .int v2), (3, .int v3)] []) (M : mv_M) (v0 : Nat) (v2 : Int32) (v3 : Int32) (s0 : Int32) (s1 : Int32) (hJ : jb_Sc_shareInOrder_80 N k4 k14 M v0 v2 v3 s0 s1 = some (r, M1)) : mv_G (xg l D E B sa) kd_Sc_shareInOrder M0 M1 (some (.long r)) M 80 [(0, va_rf (some v0)), (2, .int v2), (3, .int v3)] [.int s1, .int s0] := by
  unfold jb_Sc_shareInOrder_80 at hJ
  refine mv_iadd (pc := 80) de_Sc_shareInOrder_80 ?_
  refine mv_istore_n (pc := 81) (i := 1) (lv' := [(1, .int (s0 + s1)), (0, va_rf (some v0)), (2, .int v2), (3, .int v3)]) de_Sc_shareInOrder_81 rfl (Nat.le_of_ble_eq_true rfl) rfl ?_
  exact mv_sub [1, 0, 2, 3] rfl (tb_Sc_shareInOrder_82 l D E B sa M0 M1 r N k4 k14 hk4 hk14 M v0 (s0 + s1) v2 v3 hJ)
set_option maxHeartbeats 4000000 in
set_option maxRecDepth 100000 in
theorem tb_Sc_shareInOrder_14 (l : Launch) (D : va_G) (E : Nat → ClassId) (B : Nat) (sa : (Nat → Nat) × Nat × (Nat → Int32)) (M0 M1 : mv_M) (r : Int64) (N : Nat) (k4 : mv_M → Nat → Int32 → Int32 → Option (Int64 × mv_M)) (hk4 : ∀ (M : mv_M) (v0 : Nat) (v1 : Int32) (v2 : Int32), k4 M v0 v1 v2 = some (r, M1) → mv_G (xg l D E B sa) kd_Sc_shareInOrder M0 M1 (some (.long r)) M 4 [(0, va_rf (some v0)), (1, .int v1), (2, .int v2)] []) : ∀ (n : Nat) (M : mv_M) (v0 : Nat) (v1 : Int32) (v2 : Int32) (v3 : Int32) (hJ : jb_Sc_shareInOrder_14 N k4 n M v0 v1 v2 v3 = some (r, M1)), mv_G (xg l D E B sa) kd_Sc_shareInOrder M0 M1 (some (.long r)) M 14 [(0, va_rf (some v0)), (1, .int v1), (2, .int v2), (3, .int v3)] [] := by
  intro n
  induction n with
  | zero => intro M v0 v1 v2 v3 hJ; cases hJ
  | succ n ih =>
    intro M v0 v1 v2 v3 hJ
    rw [jb_Sc_shareInOrder_14] at hJ
    refine mv_iload_n (pc := 14) (i := 3) de_Sc_shareInOrder_14 rfl 3 rfl ?_
    refine mv_aload_n (pc := 15) (i := 0) de_Sc_shareInOrder_15 rfl 0 rfl ?_
    refine mv_getI (pc := 16) (f := 2) (kc_4 l D E B sa) (Nat.le_of_ble_eq_true rfl) wt_1_106 de_Sc_shareInOrder_16 hJ (fun x16 e16 h16 => ?_)
    refine mv_icmp_ge (pc := 19) (tgt := 88) de_Sc_shareInOrder_19 (by decide) h16 (fun hc19 h19 => ?_) (fun hc19 h19 => ?_)
    · refine mv_iinc (pc := 88) (v := (v2 + 1)) (lv' := [(2, .int (v2 + 1)), (0, va_rf (some v0)), (1, .int v1), (3, .int v3)]) de_Sc_shareInOrder_88 2 rfl rfl (Nat.le_of_ble_eq_true rfl) rfl ?_
      refine mv_goto (pc := 91) (tgt := 4) de_Sc_shareInOrder_91 (by decide) ?_
      exact mv_sub [1, 2, 0] rfl (hk4 M v0 v1 (v2 + 1) h19)
    · refine mv_aload_n (pc := 22) (i := 0) de_Sc_shareInOrder_22 rfl 0 rfl ?_
      refine mv_getR (pc := 23) (f := 1) (kc_4 l D E B sa) (Nat.le_of_ble_eq_true rfl) wt_1_105 de_Sc_shareInOrder_23 h19 (fun x23 e23 h23 => ?_)
      refine mv_iload_n (pc := 26) (i := 2) de_Sc_shareInOrder_26 rfl 2 rfl ?_
      obtain ⟨a27, ha, h27a⟩ := mj_bindE h23
      subst ha
      refine mv_zald (pc := 27) (t := 2) rfl de_Sc_shareInOrder_27 h27a (fun x27 e27 h27 => ?_)
      refine mv_if_eq (pc := 28) (tgt := 82) de_Sc_shareInOrder_28 (by decide) h27 (fun hc28 h28 => ?_) (fun hc28 h28 => ?_)
      · exact mv_sub [0, 1, 2, 3] rfl (tb_Sc_shareInOrder_82 l D E B sa M0 M1 r N k4 (jb_Sc_shareInOrder_14 N k4 n) hk4 ih M v0 v1 v2 v3 h28)
      · refine mv_aload_n (pc := 31) (i := 0) de_Sc_shareInOrder_31 rfl 0 rfl ?_
        refine mv_getR (pc := 32) (f := 1) (kc_4 l D E B sa) (Nat.le_of_ble_eq_true rfl) wt_1_105 de_Sc_shareInOrder_32 h28 (fun x32 e32 h32 => ?_)
        refine mv_iload_n (pc := 35) (i := 3) de_Sc_shareInOrder_35 rfl 3 rfl ?_
        obtain ⟨a36, ha, h36a⟩ := mj_bindE h32
        subst ha
        refine mv_zald (pc := 36) (t := 2) rfl de_Sc_shareInOrder_36 h36a (fun x36 e36 h36 => ?_)
        refine mv_if_ne (pc := 37) (tgt := 82) de_Sc_shareInOrder_37 (by decide) h36 (fun hc37 h37 => ?_) (fun hc37 h37 => ?_)
        · refine mv_iload_n (pc := 40) (i := 1) de_Sc_shareInOrder_40 rfl 1 rfl ?_
          refine mv_aload_n (pc := 41) (i := 0) de_Sc_shareInOrder_41 rfl 0 rfl ?_
          refine mv_getR (pc := 42) (f := 0) (kc_4 l D E B sa) (Nat.le_of_ble_eq_true rfl) wt_1_104 de_Sc_shareInOrder_42 h37 (fun x42 e42 h42 => ?_)
          refine mv_iload_n (pc := 45) (i := 2) de_Sc_shareInOrder_45 rfl 2 rfl ?_
          obtain ⟨a46, ha, h46a⟩ := mj_bindE h42
          subst ha
          refine mv_iald (pc := 46) (t := 0) rfl de_Sc_shareInOrder_46 h46a (fun x46 e46 h46 => ?_)
          refine mv_aload_n (pc := 47) (i := 0) de_Sc_shareInOrder_47 rfl 0 rfl ?_
          refine mv_getR (pc := 48) (f := 0) (kc_4 l D E B sa) (Nat.le_of_ble_eq_true rfl) wt_1_104 de_Sc_shareInOrder_48 h46 (fun x48 e48 h48 => ?_)
          refine mv_iload_n (pc := 51) (i := 3) de_Sc_shareInOrder_51 rfl 3 rfl ?_
          obtain ⟨a52, ha, h52a⟩ := mj_bindE h48
          subst ha
          refine mv_iald (pc := 52) (t := 0) rfl de_Sc_shareInOrder_52 h52a (fun x52 e52 h52 => ?_)
          refine mv_icmp_le (pc := 53) (tgt := 60) de_Sc_shareInOrder_53 (by decide) h52 (fun hc53 h53 => ?_) (fun hc53 h53 => ?_)
          · refine mv_aload_n (pc := 60) (i := 0) de_Sc_shareInOrder_60 rfl 0 rfl ?_
            refine mv_getR (pc := 61) (f := 0) (kc_4 l D E B sa) (Nat.le_of_ble_eq_true rfl) wt_1_104 de_Sc_shareInOrder_61 h53 (fun x61 e61 h61 => ?_)
            refine mv_iload_n (pc := 64) (i := 2) de_Sc_shareInOrder_64 rfl 2 rfl ?_
            obtain ⟨a65, ha, h65a⟩ := mj_bindE h61
            subst ha
            refine mv_iald (pc := 65) (t := 0) rfl de_Sc_shareInOrder_65 h65a (fun x65 e65 h65 => ?_)
            refine mv_aload_n (pc := 66) (i := 0) de_Sc_shareInOrder_66 rfl 0 rfl ?_
            refine mv_getR (pc := 67) (f := 0) (kc_4 l D E B sa) (Nat.le_of_ble_eq_true rfl) wt_1_104 de_Sc_shareInOrder_67 h65 (fun x67 e67 h67 => ?_)
            refine mv_iload_n (pc := 70) (i := 3) de_Sc_shareInOrder_70 rfl 3 rfl ?_
            obtain ⟨a71, ha, h71a⟩ := mj_bindE h67
            subst ha
            refine mv_iald (pc := 71) (t := 0) rfl de_Sc_shareInOrder_71 h71a (fun x71 e71 h71 => ?_)
            refine mv_icmp_ne (pc := 72) (tgt := 79) de_Sc_shareInOrder_72 (by decide) h71 (fun hc72 h72 => ?_) (fun hc72 h72 => ?_)
            · refine mv_iconst (pc := 75) (v := 1) de_Sc_shareInOrder_75 (by decide) ?_
              refine mv_goto (pc := 76) (tgt := 80) de_Sc_shareInOrder_76 (by decide) ?_
              exact mv_sub [0, 2, 3] rfl (tb_Sc_shareInOrder_80 l D E B sa M0 M1 r N k4 (jb_Sc_shareInOrder_14 N k4 n) hk4 ih M v0 v2 v3 v1 1 h72)
            · refine mv_iconst (pc := 79) (v := 0) de_Sc_shareInOrder_79 (by decide) ?_
              exact mv_sub [0, 2, 3] rfl (tb_Sc_shareInOrder_80 l D E B sa M0 M1 r N k4 (jb_Sc_shareInOrder_14 N k4 n) hk4 ih M v0 v2 v3 v1 0 h72)
          · refine mv_iconst (pc := 56) (v := 2) de_Sc_shareInOrder_56 (by decide) ?_
            refine mv_goto (pc := 57) (tgt := 80) de_Sc_shareInOrder_57 (by decide) ?_
            exact mv_sub [0, 2, 3] rfl (tb_Sc_shareInOrder_80 l D E B sa M0 M1 r N k4 (jb_Sc_shareInOrder_14 N k4 n) hk4 ih M v0 v2 v3 v1 2 h53)
        · exact mv_sub [0, 1, 2, 3] rfl (tb_Sc_shareInOrder_82 l D E B sa M0 M1 r N k4 (jb_Sc_shareInOrder_14 N k4 n) hk4 ih M v0 v1 v2 v3 h37)
set_option maxHeartbeats 4000000 in
set_option maxRecDepth 100000 in
theorem tb_Sc_shareInOrder_4 (l : Launch) (D : va_G) (E : Nat → ClassId) (B : Nat) (sa : (Nat → Nat) × Nat × (Nat → Int32)) (M0 M1 : mv_M) (r : Int64) (N : Nat) : ∀ (n : Nat) (M : mv_M) (v0 : Nat) (v1 : Int32) (v2 : Int32) (hJ : jb_Sc_shareInOrder_4 N n M v0 v1 v2 = some (r, M1)), mv_G (xg l D E B sa) kd_Sc_shareInOrder M0 M1 (some (.long r)) M 4 [(0, va_rf (some v0)), (1, .int v1), (2, .int v2)] [] := by
  intro n
  induction n with
  | zero => intro M v0 v1 v2 hJ; cases hJ
  | succ n ih =>
    intro M v0 v1 v2 hJ
    rw [jb_Sc_shareInOrder_4] at hJ
    refine mv_iload_n (pc := 4) (i := 2) de_Sc_shareInOrder_4 rfl 2 rfl ?_
    refine mv_aload_n (pc := 5) (i := 0) de_Sc_shareInOrder_5 rfl 0 rfl ?_
    refine mv_getI (pc := 6) (f := 2) (kc_4 l D E B sa) (Nat.le_of_ble_eq_true rfl) wt_1_106 de_Sc_shareInOrder_6 hJ (fun x6 e6 h6 => ?_)
    refine mv_icmp_ge (pc := 9) (tgt := 94) de_Sc_shareInOrder_9 (by decide) h6 (fun hc9 h9 => ?_) (fun hc9 h9 => ?_)
    · refine mv_aload_n (pc := 94) (i := 0) de_Sc_shareInOrder_94 rfl 0 rfl ?_
      obtain ⟨hi95, h95o⟩ := mj_obE h9
      obtain ⟨r95, Mm95, hz95, h95⟩ := mj_callE h95o
      refine mv_callV (pc := 95) (n := 0) (av := []) (rest := []) de_Sc_shareInOrder_95 (kc_4 l D E B sa) hi95 (cm_Sc_countYes l D E B sa N M v0 _ _ hz95) wt_3_189 wt_3_191 wp_14 wt_1_6 wt_3_192 ⟨by decide, by decide, by decide +kernel⟩ rfl ⟨Nat.le_of_ble_eq_true rfl, Nat.le_of_ble_eq_true rfl⟩ (Nat.le_of_ble_eq_true rfl) rfl ?_
      refine mv_istore_n (pc := 98) (i := 2) (lv' := [(2, .int r95), (0, va_rf (some v0)), (1, .int v1)]) de_Sc_shareInOrder_98 rfl (Nat.le_of_ble_eq_true rfl) rfl ?_
      refine mv_iload_n (pc := 99) (i := 1) de_Sc_shareInOrder_99 rfl 2 rfl ?_
      refine mv_i2l (pc := 100) de_Sc_shareInOrder_100 ?_
      refine mv_ldc2 (pc := 101) de_Sc_shareInOrder_101 wt_3_193 ?_
      refine mv_iload_n (pc := 104) (i := 2) de_Sc_shareInOrder_104 rfl 0 rfl ?_
      refine mv_i2l (pc := 105) de_Sc_shareInOrder_105 ?_
      refine mv_lmul (pc := 106) de_Sc_shareInOrder_106 ?_
      refine mv_aload_n (pc := 107) (i := 0) de_Sc_shareInOrder_107 rfl 1 rfl ?_
      refine mv_getI (pc := 108) (f := 2) (kc_4 l D E B sa) (Nat.le_of_ble_eq_true rfl) wt_1_106 de_Sc_shareInOrder_108 h95 (fun x108 e108 h108 => ?_)
      refine mv_iload_n (pc := 111) (i := 2) de_Sc_shareInOrder_111 rfl 0 rfl ?_
      refine mv_isub (pc := 112) de_Sc_shareInOrder_112 ?_
      refine mv_i2l (pc := 113) de_Sc_shareInOrder_113 ?_
      refine mv_lmul (pc := 114) de_Sc_shareInOrder_114 ?_
      obtain ⟨r115, Mm115, hz115, h115⟩ := mj_callE h108
      refine mv_callS (pc := 115) (n := 2) (av := [.long v1.toInt64, .long ((2 * r95.toInt64) * (x108 - r95).toInt64)]) (rest := []) de_Sc_shareInOrder_115 (cm_Fr_of l D E B sa N Mm95 v1.toInt64 ((2 * r95.toInt64) * (x108 - r95).toInt64) _ _ hz115) wt_3_194 wt_1_35 wt_1_3 wt_1_36 ⟨by decide, by decide, by decide +kernel⟩ rfl ⟨Nat.le_of_ble_eq_true rfl, Nat.le_of_ble_eq_true rfl⟩ (Nat.le_of_ble_eq_true rfl) rfl ?_
      exact mv_lret (pc := 118) rfl de_Sc_shareInOrder_118 h115
    · refine mv_iconst (pc := 12) (v := 0) de_Sc_shareInOrder_12 (by decide) ?_
      refine mv_istore_n (pc := 13) (i := 3) (lv' := [(3, .int 0), (0, va_rf (some v0)), (1, .int v1), (2, .int v2)]) de_Sc_shareInOrder_13 rfl (Nat.le_of_ble_eq_true rfl) rfl ?_
      exact mv_sub [1, 2, 3, 0] rfl (tb_Sc_shareInOrder_14 l D E B sa M0 M1 r N (jb_Sc_shareInOrder_4 N n) ih N M v0 v1 v2 0 h9)
set_option maxHeartbeats 4000000 in
set_option maxRecDepth 100000 in
theorem tb_Sc_shareInOrder_0 (l : Launch) (D : va_G) (E : Nat → ClassId) (B : Nat) (sa : (Nat → Nat) × Nat × (Nat → Int32)) (M0 M1 : mv_M) (r : Int64) (N : Nat) (M : mv_M) (v0 : Nat) (hJ : jb_Sc_shareInOrder_0 N M v0 = some (r, M1)) : mv_G (xg l D E B sa) kd_Sc_shareInOrder M0 M1 (some (.long r)) M 0 [(0, va_rf (some v0))] [] := by
  unfold jb_Sc_shareInOrder_0 at hJ
  refine mv_iconst (pc := 0) (v := 0) de_Sc_shareInOrder_0 (by decide) ?_
  refine mv_istore_n (pc := 1) (i := 1) (lv' := [(1, .int 0), (0, va_rf (some v0))]) de_Sc_shareInOrder_1 rfl (Nat.le_of_ble_eq_true rfl) rfl ?_
  refine mv_iconst (pc := 2) (v := 0) de_Sc_shareInOrder_2 (by decide) ?_
  refine mv_istore_n (pc := 3) (i := 2) (lv' := [(2, .int 0), (1, .int 0), (0, va_rf (some v0))]) de_Sc_shareInOrder_3 rfl (Nat.le_of_ble_eq_true rfl) rfl ?_
  exact mv_sub [2, 1, 0] rfl (tb_Sc_shareInOrder_4 l D E B sa M0 M1 r N N M v0 0 0 hJ)
theorem cm_Sc_shareInOrder (l : Launch) (D : va_G) (E : Nat → ClassId) (B : Nat) (sa : (Nat → Nat) × Nat × (Nat → Int32)) (N : Nat) (M : mv_M) (v0 : Nat) (r : Int64) (M1 : mv_M) (hJ : jf_Sc_shareInOrder N M v0 = some (r, M1)) : mv_Met (xg l D E B sa) yn_Sc_shareInOrder cd_Sc_shareInOrder 4 (some .long) 2 55 [va_rf (some v0)] M (some (.long r)) M1 :=
  mv_enter (by decide) (Nat.le_of_ble_eq_true rfl) (mv_sub (lv := [(0, va_rf (some v0))]) [0] rfl (tb_Sc_shareInOrder_0 l D E B sa M M1 r N M v0 hJ))
/-! ===== PlainLearner$Scores.countRight(I)I ===== -/
abbrev kd_Sc_countRight : mv_Kd := (cd_Sc_countRight, 4, "PlainLearner$Scores", "countRight", (some .int), 0, 0)
theorem de_Sc_countRight_0 : decode cd_Sc_countRight 0 = .ok (.iconst 0, 1) := by decide +kernel
theorem de_Sc_countRight_1 : decode cd_Sc_countRight 1 = .ok (.istore_n 2, 1) := by decide +kernel
theorem de_Sc_countRight_2 : decode cd_Sc_countRight 2 = .ok (.iconst 0, 1) := by decide +kernel
theorem de_Sc_countRight_3 : decode cd_Sc_countRight 3 = .ok (.istore_n 3, 1) := by decide +kernel
theorem de_Sc_countRight_4 : decode cd_Sc_countRight 4 = .ok (.iload_n 3, 1) := by decide +kernel
theorem de_Sc_countRight_5 : decode cd_Sc_countRight 5 = .ok (.aload_n 0, 1) := by decide +kernel
theorem de_Sc_countRight_6 : decode cd_Sc_countRight 6 = .ok (.getfield 19, 3) := by decide +kernel
theorem de_Sc_countRight_9 : decode cd_Sc_countRight 9 = .ok (.if_icmp .ge 36, 3) := by decide +kernel
theorem de_Sc_countRight_12 : decode cd_Sc_countRight 12 = .ok (.aload_n 0, 1) := by decide +kernel
theorem de_Sc_countRight_13 : decode cd_Sc_countRight 13 = .ok (.getfield 11, 3) := by decide +kernel
theorem de_Sc_countRight_16 : decode cd_Sc_countRight 16 = .ok (.iload_n 3, 1) := by decide +kernel
theorem de_Sc_countRight_17 : decode cd_Sc_countRight 17 = .ok (.iaload, 1) := by decide +kernel
theorem de_Sc_countRight_18 : decode cd_Sc_countRight 18 = .ok (.iload_n 1, 1) := by decide +kernel
theorem de_Sc_countRight_19 : decode cd_Sc_countRight 19 = .ok (.if_icmp .lt 7, 3) := by decide +kernel
theorem de_Sc_countRight_22 : decode cd_Sc_countRight 22 = .ok (.iconst 1, 1) := by decide +kernel
theorem de_Sc_countRight_23 : decode cd_Sc_countRight 23 = .ok (.goto 4, 3) := by decide +kernel
theorem de_Sc_countRight_26 : decode cd_Sc_countRight 26 = .ok (.iconst 0, 1) := by decide +kernel
theorem de_Sc_countRight_27 : decode cd_Sc_countRight 27 = .ok (.aload_n 0, 1) := by decide +kernel
theorem de_Sc_countRight_28 : decode cd_Sc_countRight 28 = .ok (.getfield 15, 3) := by decide +kernel
theorem de_Sc_countRight_31 : decode cd_Sc_countRight 31 = .ok (.iload_n 3, 1) := by decide +kernel
theorem de_Sc_countRight_32 : decode cd_Sc_countRight 32 = .ok (.baload, 1) := by decide +kernel
theorem de_Sc_countRight_33 : decode cd_Sc_countRight 33 = .ok (.if_icmp .ne 6, 3) := by decide +kernel
theorem de_Sc_countRight_36 : decode cd_Sc_countRight 36 = .ok (.iinc 2 1, 3) := by decide +kernel
theorem de_Sc_countRight_39 : decode cd_Sc_countRight 39 = .ok (.iinc 3 1, 3) := by decide +kernel
theorem de_Sc_countRight_42 : decode cd_Sc_countRight 42 = .ok (.goto (-38), 3) := by decide +kernel
theorem de_Sc_countRight_45 : decode cd_Sc_countRight 45 = .ok (.iload_n 2, 1) := by decide +kernel
theorem de_Sc_countRight_46 : decode cd_Sc_countRight 46 = .ok (.ireturn, 1) := by decide +kernel
def jb_Sc_countRight_39 (N : Nat) (k4 : mv_M → Nat → Int32 → Int32 → Int32 → Option (Int32 × mv_M)) (M : mv_M) (v0 : Nat) (v1 : Int32) (v2 : Int32) (v3 : Int32) : Option (Int32 × mv_M) :=
  k4 M v0 v1 v2 (v3 + 1)
def jb_Sc_countRight_27 (N : Nat) (k4 : mv_M → Nat → Int32 → Int32 → Int32 → Option (Int32 × mv_M)) (M : mv_M) (v0 : Nat) (v1 : Int32) (v2 : Int32) (v3 : Int32) (s0 : Int32) : Option (Int32 × mv_M) :=
  Option.bind (mj_getR M v0 4 1) fun x28 =>
  Option.bind x28 fun a32 =>
  Option.bind (mj_ild M a32 2 v3) fun x32 =>
  if s0 = x32 then (jb_Sc_countRight_39 N k4 M v0 v1 (v2 + 1) v3) else
  jb_Sc_countRight_39 N k4 M v0 v1 v2 v3
def jb_Sc_countRight_4 (N : Nat) : Nat → mv_M → Nat → Int32 → Int32 → Int32 → Option (Int32 × mv_M)
  | 0, _, _, _, _, _ => none
  | n + 1, M, v0, v1, v2, v3 =>
    Option.bind (mj_getI M v0 4 2) fun x6 =>
    if x6 ≤ v3 then (some (v2, M)) else
    Option.bind (mj_getR M v0 4 0) fun x13 =>
    Option.bind x13 fun a17 =>
    Option.bind (mj_ild M a17 0 v3) fun x17 =>
    if x17 < v1 then (jb_Sc_countRight_27 N (jb_Sc_countRight_4 N n) M v0 v1 v2 v3 0) else
    jb_Sc_countRight_27 N (jb_Sc_countRight_4 N n) M v0 v1 v2 v3 1
def jb_Sc_countRight_0 (N : Nat) (M : mv_M) (v0 : Nat) (v1 : Int32) : Option (Int32 × mv_M) :=
  jb_Sc_countRight_4 N N M v0 v1 0 0
def jf_Sc_countRight (N : Nat) (M : mv_M) (v0 : Nat) (v1 : Int32) : Option (Int32 × mv_M) := jb_Sc_countRight_0 N M v0 v1
set_option maxHeartbeats 4000000 in
set_option maxRecDepth 100000 in
theorem tb_Sc_countRight_39 (l : Launch) (D : va_G) (E : Nat → ClassId) (B : Nat) (sa : (Nat → Nat) × Nat × (Nat → Int32)) (M0 M1 : mv_M) (r : Int32) (N : Nat) (k4 : mv_M → Nat → Int32 → Int32 → Int32 → Option (Int32 × mv_M)) (hk4 : ∀ (M : mv_M) (v0 : Nat) (v1 : Int32) (v2 : Int32) (v3 : Int32), k4 M v0 v1 v2 v3 = some (r, M1) → mv_G (xg l D E B sa) kd_Sc_countRight M0 M1 (some (.int r)) M 4 [(0, va_rf (some v0)), (1, .int v1), (2, .int v2), (3, .int v3)] []) (M : mv_M) (v0 : Nat) (v1 : Int32) (v2 : Int32) (v3 : Int32) (hJ : jb_Sc_countRight_39 N k4 M v0 v1 v2 v3 = some (r, M1)) : mv_G (xg l D E B sa) kd_Sc_countRight M0 M1 (some (.int r)) M 39 [(0, va_rf (some v0)), (1, .int v1), (2, .int v2), (3, .int v3)] [] := by
  unfold jb_Sc_countRight_39 at hJ
  refine mv_iinc (pc := 39) (v := (v3 + 1)) (lv' := [(3, .int (v3 + 1)), (0, va_rf (some v0)), (1, .int v1), (2, .int v2)]) de_Sc_countRight_39 3 rfl rfl (Nat.le_of_ble_eq_true rfl) rfl ?_
  refine mv_goto (pc := 42) (tgt := 4) de_Sc_countRight_42 (by decide) ?_
  exact mv_sub [1, 2, 3, 0] rfl (hk4 M v0 v1 v2 (v3 + 1) hJ)
set_option maxHeartbeats 4000000 in
set_option maxRecDepth 100000 in
theorem tb_Sc_countRight_27 (l : Launch) (D : va_G) (E : Nat → ClassId) (B : Nat) (sa : (Nat → Nat) × Nat × (Nat → Int32)) (M0 M1 : mv_M) (r : Int32) (N : Nat) (k4 : mv_M → Nat → Int32 → Int32 → Int32 → Option (Int32 × mv_M)) (hk4 : ∀ (M : mv_M) (v0 : Nat) (v1 : Int32) (v2 : Int32) (v3 : Int32), k4 M v0 v1 v2 v3 = some (r, M1) → mv_G (xg l D E B sa) kd_Sc_countRight M0 M1 (some (.int r)) M 4 [(0, va_rf (some v0)), (1, .int v1), (2, .int v2), (3, .int v3)] []) (M : mv_M) (v0 : Nat) (v1 : Int32) (v2 : Int32) (v3 : Int32) (s0 : Int32) (hJ : jb_Sc_countRight_27 N k4 M v0 v1 v2 v3 s0 = some (r, M1)) : mv_G (xg l D E B sa) kd_Sc_countRight M0 M1 (some (.int r)) M 27 [(0, va_rf (some v0)), (1, .int v1), (2, .int v2), (3, .int v3)] [.int s0] := by
  unfold jb_Sc_countRight_27 at hJ
  refine mv_aload_n (pc := 27) (i := 0) de_Sc_countRight_27 rfl 0 rfl ?_
  refine mv_getR (pc := 28) (f := 1) (kc_4 l D E B sa) (Nat.le_of_ble_eq_true rfl) wt_1_105 de_Sc_countRight_28 hJ (fun x28 e28 h28 => ?_)
  refine mv_iload_n (pc := 31) (i := 3) de_Sc_countRight_31 rfl 3 rfl ?_
  obtain ⟨a32, ha, h32a⟩ := mj_bindE h28
  subst ha
  refine mv_zald (pc := 32) (t := 2) rfl de_Sc_countRight_32 h32a (fun x32 e32 h32 => ?_)
  refine mv_icmp_ne (pc := 33) (tgt := 39) de_Sc_countRight_33 (by decide) h32 (fun hc33 h33 => ?_) (fun hc33 h33 => ?_)
  · refine mv_iinc (pc := 36) (v := (v2 + 1)) (lv' := [(2, .int (v2 + 1)), (0, va_rf (some v0)), (1, .int v1), (3, .int v3)]) de_Sc_countRight_36 2 rfl rfl (Nat.le_of_ble_eq_true rfl) rfl ?_
    exact mv_sub [1, 2, 0, 3] rfl (tb_Sc_countRight_39 l D E B sa M0 M1 r N k4 hk4 M v0 v1 (v2 + 1) v3 h33)
  · exact mv_sub [0, 1, 2, 3] rfl (tb_Sc_countRight_39 l D E B sa M0 M1 r N k4 hk4 M v0 v1 v2 v3 h33)
set_option maxHeartbeats 4000000 in
set_option maxRecDepth 100000 in
theorem tb_Sc_countRight_4 (l : Launch) (D : va_G) (E : Nat → ClassId) (B : Nat) (sa : (Nat → Nat) × Nat × (Nat → Int32)) (M0 M1 : mv_M) (r : Int32) (N : Nat) : ∀ (n : Nat) (M : mv_M) (v0 : Nat) (v1 : Int32) (v2 : Int32) (v3 : Int32) (hJ : jb_Sc_countRight_4 N n M v0 v1 v2 v3 = some (r, M1)), mv_G (xg l D E B sa) kd_Sc_countRight M0 M1 (some (.int r)) M 4 [(0, va_rf (some v0)), (1, .int v1), (2, .int v2), (3, .int v3)] [] := by
  intro n
  induction n with
  | zero => intro M v0 v1 v2 v3 hJ; cases hJ
  | succ n ih =>
    intro M v0 v1 v2 v3 hJ
    rw [jb_Sc_countRight_4] at hJ
    refine mv_iload_n (pc := 4) (i := 3) de_Sc_countRight_4 rfl 3 rfl ?_
    refine mv_aload_n (pc := 5) (i := 0) de_Sc_countRight_5 rfl 0 rfl ?_
    refine mv_getI (pc := 6) (f := 2) (kc_4 l D E B sa) (Nat.le_of_ble_eq_true rfl) wt_1_106 de_Sc_countRight_6 hJ (fun x6 e6 h6 => ?_)
    refine mv_icmp_ge (pc := 9) (tgt := 45) de_Sc_countRight_9 (by decide) h6 (fun hc9 h9 => ?_) (fun hc9 h9 => ?_)
    · refine mv_iload_n (pc := 45) (i := 2) de_Sc_countRight_45 rfl 2 rfl ?_
      exact mv_iret (pc := 46) rfl de_Sc_countRight_46 h9
    · refine mv_aload_n (pc := 12) (i := 0) de_Sc_countRight_12 rfl 0 rfl ?_
      refine mv_getR (pc := 13) (f := 0) (kc_4 l D E B sa) (Nat.le_of_ble_eq_true rfl) wt_1_104 de_Sc_countRight_13 h9 (fun x13 e13 h13 => ?_)
      refine mv_iload_n (pc := 16) (i := 3) de_Sc_countRight_16 rfl 3 rfl ?_
      obtain ⟨a17, ha, h17a⟩ := mj_bindE h13
      subst ha
      refine mv_iald (pc := 17) (t := 0) rfl de_Sc_countRight_17 h17a (fun x17 e17 h17 => ?_)
      refine mv_iload_n (pc := 18) (i := 1) de_Sc_countRight_18 rfl 1 rfl ?_
      refine mv_icmp_lt (pc := 19) (tgt := 26) de_Sc_countRight_19 (by decide) h17 (fun hc19 h19 => ?_) (fun hc19 h19 => ?_)
      · refine mv_iconst (pc := 26) (v := 0) de_Sc_countRight_26 (by decide) ?_
        exact mv_sub [0, 1, 2, 3] rfl (tb_Sc_countRight_27 l D E B sa M0 M1 r N (jb_Sc_countRight_4 N n) ih M v0 v1 v2 v3 0 h19)
      · refine mv_iconst (pc := 22) (v := 1) de_Sc_countRight_22 (by decide) ?_
        refine mv_goto (pc := 23) (tgt := 27) de_Sc_countRight_23 (by decide) ?_
        exact mv_sub [0, 1, 2, 3] rfl (tb_Sc_countRight_27 l D E B sa M0 M1 r N (jb_Sc_countRight_4 N n) ih M v0 v1 v2 v3 1 h19)
set_option maxHeartbeats 4000000 in
set_option maxRecDepth 100000 in
theorem tb_Sc_countRight_0 (l : Launch) (D : va_G) (E : Nat → ClassId) (B : Nat) (sa : (Nat → Nat) × Nat × (Nat → Int32)) (M0 M1 : mv_M) (r : Int32) (N : Nat) (M : mv_M) (v0 : Nat) (v1 : Int32) (hJ : jb_Sc_countRight_0 N M v0 v1 = some (r, M1)) : mv_G (xg l D E B sa) kd_Sc_countRight M0 M1 (some (.int r)) M 0 [(0, va_rf (some v0)), (1, .int v1)] [] := by
  unfold jb_Sc_countRight_0 at hJ
  refine mv_iconst (pc := 0) (v := 0) de_Sc_countRight_0 (by decide) ?_
  refine mv_istore_n (pc := 1) (i := 2) (lv' := [(2, .int 0), (0, va_rf (some v0)), (1, .int v1)]) de_Sc_countRight_1 rfl (Nat.le_of_ble_eq_true rfl) rfl ?_
  refine mv_iconst (pc := 2) (v := 0) de_Sc_countRight_2 (by decide) ?_
  refine mv_istore_n (pc := 3) (i := 3) (lv' := [(3, .int 0), (2, .int 0), (0, va_rf (some v0)), (1, .int v1)]) de_Sc_countRight_3 rfl (Nat.le_of_ble_eq_true rfl) rfl ?_
  exact mv_sub [2, 3, 1, 0] rfl (tb_Sc_countRight_4 l D E B sa M0 M1 r N N M v0 v1 0 0 hJ)
theorem cm_Sc_countRight (l : Launch) (D : va_G) (E : Nat → ClassId) (B : Nat) (sa : (Nat → Nat) × Nat × (Nat → Int32)) (N : Nat) (M : mv_M) (v0 : Nat) (v1 : Int32) (r : Int32) (M1 : mv_M) (hJ : jf_Sc_countRight N M v0 v1 = some (r, M1)) : mv_Met (xg l D E B sa) yn_Sc_countRight cd_Sc_countRight 4 (some .int) 0 0 [va_rf (some v0), .int v1] M (some (.int r)) M1 :=
  mv_enter (by decide) (Nat.le_of_ble_eq_true rfl) (mv_sub (lv := [(0, va_rf (some v0)), (1, .int v1)]) [0, 1] rfl (tb_Sc_countRight_0 l D E B sa M M1 r N M v0 v1 hJ))
