/-! ===== PlainLearner$Fractions.gcd(JJ)J ===== -/
abbrev kd_Fr_gcd : mv_Kd := (cd_Fr_gcd, 11, "PlainLearner$Fractions", "gcd", (some .long), 0, 0)
theorem de_Fr_gcd_0 : decode cd_Fr_gcd 0 = .ok (.lload_n 0, 1) := by decide +kernel
theorem de_Fr_gcd_1 : decode cd_Fr_gcd 1 = .ok (.lconst 0, 1) := by decide +kernel
theorem de_Fr_gcd_2 : decode cd_Fr_gcd 2 = .ok (.lcmp, 1) := by decide +kernel
theorem de_Fr_gcd_3 : decode cd_Fr_gcd 3 = .ok (.ifCond .ge 8, 3) := by decide +kernel
theorem de_Fr_gcd_6 : decode cd_Fr_gcd 6 = .ok (.lload_n 0, 1) := by decide +kernel
theorem de_Fr_gcd_7 : decode cd_Fr_gcd 7 = .ok (.lneg, 1) := by decide +kernel
theorem de_Fr_gcd_8 : decode cd_Fr_gcd 8 = .ok (.goto 4, 3) := by decide +kernel
theorem de_Fr_gcd_11 : decode cd_Fr_gcd 11 = .ok (.lload_n 0, 1) := by decide +kernel
theorem de_Fr_gcd_12 : decode cd_Fr_gcd 12 = .ok (.lstore 4, 2) := by decide +kernel
theorem de_Fr_gcd_14 : decode cd_Fr_gcd 14 = .ok (.lload_n 2, 1) := by decide +kernel
theorem de_Fr_gcd_15 : decode cd_Fr_gcd 15 = .ok (.lconst 0, 1) := by decide +kernel
theorem de_Fr_gcd_16 : decode cd_Fr_gcd 16 = .ok (.lcmp, 1) := by decide +kernel
theorem de_Fr_gcd_17 : decode cd_Fr_gcd 17 = .ok (.ifCond .ge 8, 3) := by decide +kernel
theorem de_Fr_gcd_20 : decode cd_Fr_gcd 20 = .ok (.lload_n 2, 1) := by decide +kernel
theorem de_Fr_gcd_21 : decode cd_Fr_gcd 21 = .ok (.lneg, 1) := by decide +kernel
theorem de_Fr_gcd_22 : decode cd_Fr_gcd 22 = .ok (.goto 4, 3) := by decide +kernel
theorem de_Fr_gcd_25 : decode cd_Fr_gcd 25 = .ok (.lload_n 2, 1) := by decide +kernel
theorem de_Fr_gcd_26 : decode cd_Fr_gcd 26 = .ok (.lstore 6, 2) := by decide +kernel
theorem de_Fr_gcd_28 : decode cd_Fr_gcd 28 = .ok (.iconst 0, 1) := by decide +kernel
theorem de_Fr_gcd_29 : decode cd_Fr_gcd 29 = .ok (.istore 8, 2) := by decide +kernel
theorem de_Fr_gcd_31 : decode cd_Fr_gcd 31 = .ok (.iload 8, 2) := by decide +kernel
theorem de_Fr_gcd_33 : decode cd_Fr_gcd 33 = .ok (.bipush 100, 2) := by decide +kernel
theorem de_Fr_gcd_35 : decode cd_Fr_gcd 35 = .ok (.if_icmp .ge 31, 3) := by decide +kernel
theorem de_Fr_gcd_38 : decode cd_Fr_gcd 38 = .ok (.lload 6, 2) := by decide +kernel
theorem de_Fr_gcd_40 : decode cd_Fr_gcd 40 = .ok (.lconst 0, 1) := by decide +kernel
theorem de_Fr_gcd_41 : decode cd_Fr_gcd 41 = .ok (.lcmp, 1) := by decide +kernel
theorem de_Fr_gcd_42 : decode cd_Fr_gcd 42 = .ok (.ifCond .eq 24, 3) := by decide +kernel
theorem de_Fr_gcd_45 : decode cd_Fr_gcd 45 = .ok (.lload 4, 2) := by decide +kernel
theorem de_Fr_gcd_47 : decode cd_Fr_gcd 47 = .ok (.lload 6, 2) := by decide +kernel
theorem de_Fr_gcd_49 : decode cd_Fr_gcd 49 = .ok (.lrem, 1) := by decide +kernel
theorem de_Fr_gcd_50 : decode cd_Fr_gcd 50 = .ok (.lstore 9, 2) := by decide +kernel
theorem de_Fr_gcd_52 : decode cd_Fr_gcd 52 = .ok (.lload 6, 2) := by decide +kernel
theorem de_Fr_gcd_54 : decode cd_Fr_gcd 54 = .ok (.lstore 4, 2) := by decide +kernel
theorem de_Fr_gcd_56 : decode cd_Fr_gcd 56 = .ok (.lload 9, 2) := by decide +kernel
theorem de_Fr_gcd_58 : decode cd_Fr_gcd 58 = .ok (.lstore 6, 2) := by decide +kernel
theorem de_Fr_gcd_60 : decode cd_Fr_gcd 60 = .ok (.iinc 8 1, 3) := by decide +kernel
theorem de_Fr_gcd_63 : decode cd_Fr_gcd 63 = .ok (.goto (-32), 3) := by decide +kernel
theorem de_Fr_gcd_66 : decode cd_Fr_gcd 66 = .ok (.lload 4, 2) := by decide +kernel
theorem de_Fr_gcd_68 : decode cd_Fr_gcd 68 = .ok (.lconst 1, 1) := by decide +kernel
theorem de_Fr_gcd_69 : decode cd_Fr_gcd 69 = .ok (.lcmp, 1) := by decide +kernel
theorem de_Fr_gcd_70 : decode cd_Fr_gcd 70 = .ok (.ifCond .ge 7, 3) := by decide +kernel
theorem de_Fr_gcd_73 : decode cd_Fr_gcd 73 = .ok (.lconst 1, 1) := by decide +kernel
theorem de_Fr_gcd_74 : decode cd_Fr_gcd 74 = .ok (.goto 5, 3) := by decide +kernel
theorem de_Fr_gcd_77 : decode cd_Fr_gcd 77 = .ok (.lload 4, 2) := by decide +kernel
theorem de_Fr_gcd_79 : decode cd_Fr_gcd 79 = .ok (.lreturn, 1) := by decide +kernel
def jb_Fr_gcd_79 (N : Nat) (M : mv_M) (s0 : Int64) : Option (Int64 × mv_M) :=
  some (s0, M)
def jb_Fr_gcd_66 (N : Nat) (M : mv_M) (v4 : Int64) : Option (Int64 × mv_M) :=
  if 0 ≤ (lg_cmp v4 1) then (jb_Fr_gcd_79 N M v4) else
  jb_Fr_gcd_79 N M 1
def jb_Fr_gcd_31 (N : Nat) : Nat → mv_M → Int64 → Int64 → Int32 → Option (Int64 × mv_M)
  | 0, _, _, _, _ => none
  | n + 1, M, v4, v6, v8 =>
    if 100 ≤ v8 then (jb_Fr_gcd_66 N M v4) else
    if (lg_cmp v6 0) = 0 then (jb_Fr_gcd_66 N M v4) else
    if v6 = 0 then none else
    jb_Fr_gcd_31 N n M v6 (v4 - v4 / v6 * v6) (v8 + 1)
def jb_Fr_gcd_26 (N : Nat) (M : mv_M) (v4 : Int64) (s0 : Int64) : Option (Int64 × mv_M) :=
  jb_Fr_gcd_31 N N M v4 s0 0
def jb_Fr_gcd_12 (N : Nat) (M : mv_M) (v2 : Int64) (s0 : Int64) : Option (Int64 × mv_M) :=
  if 0 ≤ (lg_cmp v2 0) then (jb_Fr_gcd_26 N M s0 v2) else
  jb_Fr_gcd_26 N M s0 (-v2)
def jb_Fr_gcd_0 (N : Nat) (M : mv_M) (v0 : Int64) (v2 : Int64) : Option (Int64 × mv_M) :=
  if 0 ≤ (lg_cmp v0 0) then (jb_Fr_gcd_12 N M v2 v0) else
  jb_Fr_gcd_12 N M v2 (-v0)
def jf_Fr_gcd (N : Nat) (M : mv_M) (v0 : Int64) (v2 : Int64) : Option (Int64 × mv_M) := jb_Fr_gcd_0 N M v0 v2
set_option maxHeartbeats 4000000 in
set_option maxRecDepth 100000 in
theorem tb_Fr_gcd_79 (l : Launch) (D : va_G) (E : Nat → ClassId) (B : Nat) (sa : (Nat → Nat) × Nat × (Nat → Int32)) (M0 M1 : mv_M) (r : Int64) (N : Nat) (M : mv_M) (s0 : Int64) (hJ : jb_Fr_gcd_79 N M s0 = some (r, M1)) : mv_G (xg l D E B sa) kd_Fr_gcd M0 M1 (some (.long r)) M 79 [] [.long s0] := by
  unfold jb_Fr_gcd_79 at hJ
  exact mv_lret (pc := 79) rfl de_Fr_gcd_79 hJ
set_option maxHeartbeats 4000000 in
set_option maxRecDepth 100000 in
theorem tb_Fr_gcd_66 (l : Launch) (D : va_G) (E : Nat → ClassId) (B : Nat) (sa : (Nat → Nat) × Nat × (Nat → Int32)) (M0 M1 : mv_M) (r : Int64) (N : Nat) (M : mv_M) (v4 : Int64) (hJ : jb_Fr_gcd_66 N M v4 = some (r, M1)) : mv_G (xg l D E B sa) kd_Fr_gcd M0 M1 (some (.long r)) M 66 [(4, .long v4)] [] := by
  unfold jb_Fr_gcd_66 at hJ
  refine mv_lload (pc := 66) de_Fr_gcd_66 0 rfl ?_
  refine mv_lconst (pc := 68) (v := 1) de_Fr_gcd_68 (by decide) ?_
  refine mv_lcmp (pc := 69) de_Fr_gcd_69 ?_
  refine mv_if_ge (pc := 70) (tgt := 77) de_Fr_gcd_70 (by decide) hJ (fun hc70 h70 => ?_) (fun hc70 h70 => ?_)
  · refine mv_lload (pc := 77) de_Fr_gcd_77 0 rfl ?_
    exact mv_sub [] rfl (tb_Fr_gcd_79 l D E B sa M0 M1 r N M v4 h70)
  · refine mv_lconst (pc := 73) (v := 1) de_Fr_gcd_73 (by decide) ?_
    refine mv_goto (pc := 74) (tgt := 79) de_Fr_gcd_74 (by decide) ?_
    exact mv_sub [] rfl (tb_Fr_gcd_79 l D E B sa M0 M1 r N M 1 h70)
set_option maxHeartbeats 4000000 in
set_option maxRecDepth 100000 in
theorem tb_Fr_gcd_31 (l : Launch) (D : va_G) (E : Nat → ClassId) (B : Nat) (sa : (Nat → Nat) × Nat × (Nat → Int32)) (M0 M1 : mv_M) (r : Int64) (N : Nat) : ∀ (n : Nat) (M : mv_M) (v4 : Int64) (v6 : Int64) (v8 : Int32) (hJ : jb_Fr_gcd_31 N n M v4 v6 v8 = some (r, M1)), mv_G (xg l D E B sa) kd_Fr_gcd M0 M1 (some (.long r)) M 31 [(4, .long v4), (6, .long v6), (8, .int v8)] [] := by
  intro n
  induction n with
  | zero => intro M v4 v6 v8 hJ; cases hJ
  | succ n ih =>
    intro M v4 v6 v8 hJ
    rw [jb_Fr_gcd_31] at hJ
    refine mv_iload (pc := 31) de_Fr_gcd_31 2 rfl ?_
    refine mv_bipush (pc := 33) (v := 100) de_Fr_gcd_33 (by decide) ?_
    refine mv_icmp_ge (pc := 35) (tgt := 66) de_Fr_gcd_35 (by decide) hJ (fun hc35 h35 => ?_) (fun hc35 h35 => ?_)
    · exact mv_sub [0] rfl (tb_Fr_gcd_66 l D E B sa M0 M1 r N M v4 h35)
    · refine mv_lload (pc := 38) de_Fr_gcd_38 1 rfl ?_
      refine mv_lconst (pc := 40) (v := 0) de_Fr_gcd_40 (by decide) ?_
      refine mv_lcmp (pc := 41) de_Fr_gcd_41 ?_
      refine mv_if_eq (pc := 42) (tgt := 66) de_Fr_gcd_42 (by decide) h35 (fun hc42 h42 => ?_) (fun hc42 h42 => ?_)
      · exact mv_sub [0] rfl (tb_Fr_gcd_66 l D E B sa M0 M1 r N M v4 h42)
      · refine mv_lload (pc := 45) de_Fr_gcd_45 0 rfl ?_
        refine mv_lload (pc := 47) de_Fr_gcd_47 1 rfl ?_
        refine mv_lrem (pc := 49) de_Fr_gcd_49 h42 (fun hc_49 h49 => ?_)
        refine mv_lstore (pc := 50) (lv' := [(9, .long (v4 - v4 / v6 * v6)), (4, .long v4), (6, .long v6), (8, .int v8)]) de_Fr_gcd_50 (Nat.le_of_ble_eq_true rfl) rfl ?_
        refine mv_lload (pc := 52) de_Fr_gcd_52 2 rfl ?_
        refine mv_lstore (pc := 54) (lv' := [(4, .long v6), (9, .long (v4 - v4 / v6 * v6)), (6, .long v6), (8, .int v8)]) de_Fr_gcd_54 (Nat.le_of_ble_eq_true rfl) rfl ?_
        refine mv_lload (pc := 56) de_Fr_gcd_56 1 rfl ?_
        refine mv_lstore (pc := 58) (lv' := [(6, .long (v4 - v4 / v6 * v6)), (4, .long v6), (9, .long (v4 - v4 / v6 * v6)), (8, .int v8)]) de_Fr_gcd_58 (Nat.le_of_ble_eq_true rfl) rfl ?_
        refine mv_iinc (pc := 60) (v := (v8 + 1)) (lv' := [(8, .int (v8 + 1)), (6, .long (v4 - v4 / v6 * v6)), (4, .long v6), (9, .long (v4 - v4 / v6 * v6))]) de_Fr_gcd_60 3 rfl rfl (Nat.le_of_ble_eq_true rfl) rfl ?_
        refine mv_goto (pc := 63) (tgt := 31) de_Fr_gcd_63 (by decide) ?_
        exact mv_sub [2, 1, 0] rfl (ih M v6 (v4 - v4 / v6 * v6) (v8 + 1) h49)
set_option maxHeartbeats 4000000 in
set_option maxRecDepth 100000 in
theorem tb_Fr_gcd_26 (l : Launch) (D : va_G) (E : Nat → ClassId) (B : Nat) (sa : (Nat → Nat) × Nat × (Nat → Int32)) (M0 M1 : mv_M) (r : Int64) (N : Nat) (M : mv_M) (v4 : Int64) (s0 : Int64) (hJ : jb_Fr_gcd_26 N M v4 s0 = some (r, M1)) : mv_G (xg l D E B sa) kd_Fr_gcd M0 M1 (some (.long r)) M 26 [(4, .long v4)] [.long s0] := by
  unfold jb_Fr_gcd_26 at hJ
  refine mv_lstore (pc := 26) (lv' := [(6, .long s0), (4, .long v4)]) de_Fr_gcd_26 (Nat.le_of_ble_eq_true rfl) rfl ?_
  refine mv_iconst (pc := 28) (v := 0) de_Fr_gcd_28 (by decide) ?_
  refine mv_istore (pc := 29) (lv' := [(8, .int 0), (6, .long s0), (4, .long v4)]) de_Fr_gcd_29 (Nat.le_of_ble_eq_true rfl) rfl ?_
  exact mv_sub [2, 1, 0] rfl (tb_Fr_gcd_31 l D E B sa M0 M1 r N N M v4 s0 0 hJ)
set_option maxHeartbeats 4000000 in
set_option maxRecDepth 100000 in
theorem tb_Fr_gcd_12 (l : Launch) (D : va_G) (E : Nat → ClassId) (B : Nat) (sa : (Nat → Nat) × Nat × (Nat → Int32)) (M0 M1 : mv_M) (r : Int64) (N : Nat) (M : mv_M) (v2 : Int64) (s0 : Int64) (hJ : jb_Fr_gcd_12 N M v2 s0 = some (r, M1)) : mv_G (xg l D E B sa) kd_Fr_gcd M0 M1 (some (.long r)) M 12 [(2, .long v2)] [.long s0] := by
  unfold jb_Fr_gcd_12 at hJ
  refine mv_lstore (pc := 12) (lv' := [(4, .long s0), (2, .long v2)]) de_Fr_gcd_12 (Nat.le_of_ble_eq_true rfl) rfl ?_
  refine mv_lload_n (pc := 14) (i := 2) de_Fr_gcd_14 rfl 1 rfl ?_
  refine mv_lconst (pc := 15) (v := 0) de_Fr_gcd_15 (by decide) ?_
  refine mv_lcmp (pc := 16) de_Fr_gcd_16 ?_
  refine mv_if_ge (pc := 17) (tgt := 25) de_Fr_gcd_17 (by decide) hJ (fun hc17 h17 => ?_) (fun hc17 h17 => ?_)
  · refine mv_lload_n (pc := 25) (i := 2) de_Fr_gcd_25 rfl 1 rfl ?_
    exact mv_sub [0] rfl (tb_Fr_gcd_26 l D E B sa M0 M1 r N M s0 v2 h17)
  · refine mv_lload_n (pc := 20) (i := 2) de_Fr_gcd_20 rfl 1 rfl ?_
    refine mv_lneg (pc := 21) de_Fr_gcd_21 ?_
    refine mv_goto (pc := 22) (tgt := 26) de_Fr_gcd_22 (by decide) ?_
    exact mv_sub [0] rfl (tb_Fr_gcd_26 l D E B sa M0 M1 r N M s0 (-v2) h17)
set_option maxHeartbeats 4000000 in
set_option maxRecDepth 100000 in
theorem tb_Fr_gcd_0 (l : Launch) (D : va_G) (E : Nat → ClassId) (B : Nat) (sa : (Nat → Nat) × Nat × (Nat → Int32)) (M0 M1 : mv_M) (r : Int64) (N : Nat) (M : mv_M) (v0 : Int64) (v2 : Int64) (hJ : jb_Fr_gcd_0 N M v0 v2 = some (r, M1)) : mv_G (xg l D E B sa) kd_Fr_gcd M0 M1 (some (.long r)) M 0 [(0, .long v0), (2, .long v2)] [] := by
  unfold jb_Fr_gcd_0 at hJ
  refine mv_lload_n (pc := 0) (i := 0) de_Fr_gcd_0 rfl 0 rfl ?_
  refine mv_lconst (pc := 1) (v := 0) de_Fr_gcd_1 (by decide) ?_
  refine mv_lcmp (pc := 2) de_Fr_gcd_2 ?_
  refine mv_if_ge (pc := 3) (tgt := 11) de_Fr_gcd_3 (by decide) hJ (fun hc3 h3 => ?_) (fun hc3 h3 => ?_)
  · refine mv_lload_n (pc := 11) (i := 0) de_Fr_gcd_11 rfl 0 rfl ?_
    exact mv_sub [1] rfl (tb_Fr_gcd_12 l D E B sa M0 M1 r N M v2 v0 h3)
  · refine mv_lload_n (pc := 6) (i := 0) de_Fr_gcd_6 rfl 0 rfl ?_
    refine mv_lneg (pc := 7) de_Fr_gcd_7 ?_
    refine mv_goto (pc := 8) (tgt := 12) de_Fr_gcd_8 (by decide) ?_
    exact mv_sub [1] rfl (tb_Fr_gcd_12 l D E B sa M0 M1 r N M v2 (-v0) h3)
theorem cm_Fr_gcd (l : Launch) (D : va_G) (E : Nat → ClassId) (B : Nat) (sa : (Nat → Nat) × Nat × (Nat → Int32)) (N : Nat) (M : mv_M) (v0 : Int64) (v2 : Int64) (r : Int64) (M1 : mv_M) (hJ : jf_Fr_gcd N M v0 v2 = some (r, M1)) : mv_Met (xg l D E B sa) yn_Fr_gcd cd_Fr_gcd 11 (some .long) 0 0 [.long v0, .long v2] M (some (.long r)) M1 :=
  mv_enter (by decide) (Nat.le_of_ble_eq_true rfl) (mv_sub (lv := [(0, .long v0), (2, .long v2)]) [0, 1] rfl (tb_Fr_gcd_0 l D E B sa M M1 r N M v0 v2 hJ))
/-! ===== PlainLearner$Fractions.fit(JJ)J ===== -/
abbrev kd_Fr_fit : mv_Kd := (cd_Fr_fit, 4, "PlainLearner$Fractions", "fit", (some .long), 0, 0)
theorem de_Fr_fit_0 : decode cd_Fr_fit 0 = .ok (.lload_n 0, 1) := by decide +kernel
theorem de_Fr_fit_1 : decode cd_Fr_fit 1 = .ok (.ldc2_w 9, 3) := by decide +kernel
theorem de_Fr_fit_4 : decode cd_Fr_fit 4 = .ok (.lcmp, 1) := by decide +kernel
theorem de_Fr_fit_5 : decode cd_Fr_fit 5 = .ok (.ifCond .gt 25, 3) := by decide +kernel
theorem de_Fr_fit_8 : decode cd_Fr_fit 8 = .ok (.lload_n 0, 1) := by decide +kernel
theorem de_Fr_fit_9 : decode cd_Fr_fit 9 = .ok (.ldc2_w 47, 3) := by decide +kernel
theorem de_Fr_fit_12 : decode cd_Fr_fit 12 = .ok (.lcmp, 1) := by decide +kernel
theorem de_Fr_fit_13 : decode cd_Fr_fit 13 = .ok (.ifCond .lt 17, 3) := by decide +kernel
theorem de_Fr_fit_16 : decode cd_Fr_fit 16 = .ok (.lload_n 2, 1) := by decide +kernel
theorem de_Fr_fit_17 : decode cd_Fr_fit 17 = .ok (.ldc2_w 9, 3) := by decide +kernel
theorem de_Fr_fit_20 : decode cd_Fr_fit 20 = .ok (.lcmp, 1) := by decide +kernel
theorem de_Fr_fit_21 : decode cd_Fr_fit 21 = .ok (.ifCond .gt 9, 3) := by decide +kernel
theorem de_Fr_fit_24 : decode cd_Fr_fit 24 = .ok (.lload_n 2, 1) := by decide +kernel
theorem de_Fr_fit_25 : decode cd_Fr_fit 25 = .ok (.lconst 1, 1) := by decide +kernel
theorem de_Fr_fit_26 : decode cd_Fr_fit 26 = .ok (.lcmp, 1) := by decide +kernel
theorem de_Fr_fit_27 : decode cd_Fr_fit 27 = .ok (.ifCond .ge 5, 3) := by decide +kernel
theorem de_Fr_fit_30 : decode cd_Fr_fit 30 = .ok (.lconst 0, 1) := by decide +kernel
theorem de_Fr_fit_31 : decode cd_Fr_fit 31 = .ok (.lreturn, 1) := by decide +kernel
theorem de_Fr_fit_32 : decode cd_Fr_fit 32 = .ok (.lload_n 0, 1) := by decide +kernel
theorem de_Fr_fit_33 : decode cd_Fr_fit 33 = .ok (.bipush 32, 2) := by decide +kernel
theorem de_Fr_fit_35 : decode cd_Fr_fit 35 = .ok (.lshl, 1) := by decide +kernel
theorem de_Fr_fit_36 : decode cd_Fr_fit 36 = .ok (.lload_n 2, 1) := by decide +kernel
theorem de_Fr_fit_37 : decode cd_Fr_fit 37 = .ok (.lor, 1) := by decide +kernel
theorem de_Fr_fit_38 : decode cd_Fr_fit 38 = .ok (.lreturn, 1) := by decide +kernel
def jb_Fr_fit_30 (N : Nat) (M : mv_M) : Option (Int64 × mv_M) :=
  some (0, M)
def jb_Fr_fit_0 (N : Nat) (M : mv_M) (v0 : Int64) (v2 : Int64) : Option (Int64 × mv_M) :=
  if 0 < (lg_cmp v0 2147483647) then (jb_Fr_fit_30 N M) else
  if (lg_cmp v0 (-2147483647)) < 0 then (jb_Fr_fit_30 N M) else
  if 0 < (lg_cmp v2 2147483647) then (jb_Fr_fit_30 N M) else
  if 0 ≤ (lg_cmp v2 1) then (some (((v0 <<< ((32 : Int32).toInt64 &&& 63)) ||| v2), M)) else
  jb_Fr_fit_30 N M
def jf_Fr_fit (N : Nat) (M : mv_M) (v0 : Int64) (v2 : Int64) : Option (Int64 × mv_M) := jb_Fr_fit_0 N M v0 v2
set_option maxHeartbeats 4000000 in
set_option maxRecDepth 100000 in
theorem tb_Fr_fit_30 (l : Launch) (D : va_G) (E : Nat → ClassId) (B : Nat) (sa : (Nat → Nat) × Nat × (Nat → Int32)) (M0 M1 : mv_M) (r : Int64) (N : Nat) (M : mv_M) (hJ : jb_Fr_fit_30 N M = some (r, M1)) : mv_G (xg l D E B sa) kd_Fr_fit M0 M1 (some (.long r)) M 30 [] [] := by
  unfold jb_Fr_fit_30 at hJ
  refine mv_lconst (pc := 30) (v := 0) de_Fr_fit_30 (by decide) ?_
  exact mv_lret (pc := 31) rfl de_Fr_fit_31 hJ
set_option maxHeartbeats 4000000 in
set_option maxRecDepth 100000 in
theorem tb_Fr_fit_0 (l : Launch) (D : va_G) (E : Nat → ClassId) (B : Nat) (sa : (Nat → Nat) × Nat × (Nat → Int32)) (M0 M1 : mv_M) (r : Int64) (N : Nat) (M : mv_M) (v0 : Int64) (v2 : Int64) (hJ : jb_Fr_fit_0 N M v0 v2 = some (r, M1)) : mv_G (xg l D E B sa) kd_Fr_fit M0 M1 (some (.long r)) M 0 [(0, .long v0), (2, .long v2)] [] := by
  unfold jb_Fr_fit_0 at hJ
  refine mv_lload_n (pc := 0) (i := 0) de_Fr_fit_0 rfl 0 rfl ?_
  refine mv_ldc2 (pc := 1) de_Fr_fit_1 wt_1_43 ?_
  refine mv_lcmp (pc := 4) de_Fr_fit_4 ?_
  refine mv_if_gt (pc := 5) (tgt := 30) de_Fr_fit_5 (by decide) hJ (fun hc5 h5 => ?_) (fun hc5 h5 => ?_)
  · exact mv_sub [] rfl (tb_Fr_fit_30 l D E B sa M0 M1 r N M h5)
  · refine mv_lload_n (pc := 8) (i := 0) de_Fr_fit_8 rfl 0 rfl ?_
    refine mv_ldc2 (pc := 9) de_Fr_fit_9 wt_1_44 ?_
    refine mv_lcmp (pc := 12) de_Fr_fit_12 ?_
    refine mv_if_lt (pc := 13) (tgt := 30) de_Fr_fit_13 (by decide) h5 (fun hc13 h13 => ?_) (fun hc13 h13 => ?_)
    · exact mv_sub [] rfl (tb_Fr_fit_30 l D E B sa M0 M1 r N M h13)
    · refine mv_lload_n (pc := 16) (i := 2) de_Fr_fit_16 rfl 1 rfl ?_
      refine mv_ldc2 (pc := 17) de_Fr_fit_17 wt_1_43 ?_
      refine mv_lcmp (pc := 20) de_Fr_fit_20 ?_
      refine mv_if_gt (pc := 21) (tgt := 30) de_Fr_fit_21 (by decide) h13 (fun hc21 h21 => ?_) (fun hc21 h21 => ?_)
      · exact mv_sub [] rfl (tb_Fr_fit_30 l D E B sa M0 M1 r N M h21)
      · refine mv_lload_n (pc := 24) (i := 2) de_Fr_fit_24 rfl 1 rfl ?_
        refine mv_lconst (pc := 25) (v := 1) de_Fr_fit_25 (by decide) ?_
        refine mv_lcmp (pc := 26) de_Fr_fit_26 ?_
        refine mv_if_ge (pc := 27) (tgt := 32) de_Fr_fit_27 (by decide) h21 (fun hc27 h27 => ?_) (fun hc27 h27 => ?_)
        · refine mv_lload_n (pc := 32) (i := 0) de_Fr_fit_32 rfl 0 rfl ?_
          refine mv_bipush (pc := 33) (v := 32) de_Fr_fit_33 (by decide) ?_
          refine mv_lshl (pc := 35) de_Fr_fit_35 ?_
          refine mv_lload_n (pc := 36) (i := 2) de_Fr_fit_36 rfl 1 rfl ?_
          refine mv_lor (pc := 37) de_Fr_fit_37 ?_
          exact mv_lret (pc := 38) rfl de_Fr_fit_38 h27
        · exact mv_sub [] rfl (tb_Fr_fit_30 l D E B sa M0 M1 r N M h27)
theorem cm_Fr_fit (l : Launch) (D : va_G) (E : Nat → ClassId) (B : Nat) (sa : (Nat → Nat) × Nat × (Nat → Int32)) (N : Nat) (M : mv_M) (v0 : Int64) (v2 : Int64) (r : Int64) (M1 : mv_M) (hJ : jf_Fr_fit N M v0 v2 = some (r, M1)) : mv_Met (xg l D E B sa) yn_Fr_fit cd_Fr_fit 4 (some .long) 0 0 [.long v0, .long v2] M (some (.long r)) M1 :=
  mv_enter (by decide) (Nat.le_of_ble_eq_true rfl) (mv_sub (lv := [(0, .long v0), (2, .long v2)]) [0, 1] rfl (tb_Fr_fit_0 l D E B sa M M1 r N M v0 v2 hJ))
/-! ===== PlainLearner$Fractions.of(JJ)J ===== -/
abbrev kd_Fr_of : mv_Kd := (cd_Fr_of, 6, "PlainLearner$Fractions", "of", (some .long), 1, 30)
theorem de_Fr_of_0 : decode cd_Fr_of 0 = .ok (.lload_n 2, 1) := by decide +kernel
theorem de_Fr_of_1 : decode cd_Fr_of 1 = .ok (.lconst 0, 1) := by decide +kernel
theorem de_Fr_of_2 : decode cd_Fr_of 2 = .ok (.lcmp, 1) := by decide +kernel
theorem de_Fr_of_3 : decode cd_Fr_of 3 = .ok (.ifCond .ne 5, 3) := by decide +kernel
theorem de_Fr_of_6 : decode cd_Fr_of 6 = .ok (.lconst 0, 1) := by decide +kernel
theorem de_Fr_of_7 : decode cd_Fr_of 7 = .ok (.lreturn, 1) := by decide +kernel
theorem de_Fr_of_8 : decode cd_Fr_of 8 = .ok (.lload_n 0, 1) := by decide +kernel
theorem de_Fr_of_9 : decode cd_Fr_of 9 = .ok (.lload_n 2, 1) := by decide +kernel
theorem de_Fr_of_10 : decode cd_Fr_of 10 = .ok (.invokestatic 22, 3) := by decide +kernel
theorem de_Fr_of_13 : decode cd_Fr_of 13 = .ok (.lstore 4, 2) := by decide +kernel
theorem de_Fr_of_15 : decode cd_Fr_of 15 = .ok (.lload_n 2, 1) := by decide +kernel
theorem de_Fr_of_16 : decode cd_Fr_of 16 = .ok (.lconst 0, 1) := by decide +kernel
theorem de_Fr_of_17 : decode cd_Fr_of 17 = .ok (.lcmp, 1) := by decide +kernel
theorem de_Fr_of_18 : decode cd_Fr_of 18 = .ok (.ifCond .ge 19, 3) := by decide +kernel
theorem de_Fr_of_21 : decode cd_Fr_of 21 = .ok (.lload_n 0, 1) := by decide +kernel
theorem de_Fr_of_22 : decode cd_Fr_of 22 = .ok (.lload 4, 2) := by decide +kernel
theorem de_Fr_of_24 : decode cd_Fr_of 24 = .ok (.ldiv, 1) := by decide +kernel
theorem de_Fr_of_25 : decode cd_Fr_of 25 = .ok (.lneg, 1) := by decide +kernel
theorem de_Fr_of_26 : decode cd_Fr_of 26 = .ok (.lload_n 2, 1) := by decide +kernel
theorem de_Fr_of_27 : decode cd_Fr_of 27 = .ok (.lload 4, 2) := by decide +kernel
theorem de_Fr_of_29 : decode cd_Fr_of 29 = .ok (.ldiv, 1) := by decide +kernel
theorem de_Fr_of_30 : decode cd_Fr_of 30 = .ok (.lneg, 1) := by decide +kernel
theorem de_Fr_of_31 : decode cd_Fr_of 31 = .ok (.invokestatic 18, 3) := by decide +kernel
theorem de_Fr_of_34 : decode cd_Fr_of 34 = .ok (.goto 14, 3) := by decide +kernel
theorem de_Fr_of_37 : decode cd_Fr_of 37 = .ok (.lload_n 0, 1) := by decide +kernel
theorem de_Fr_of_38 : decode cd_Fr_of 38 = .ok (.lload 4, 2) := by decide +kernel
theorem de_Fr_of_40 : decode cd_Fr_of 40 = .ok (.ldiv, 1) := by decide +kernel
theorem de_Fr_of_41 : decode cd_Fr_of 41 = .ok (.lload_n 2, 1) := by decide +kernel
theorem de_Fr_of_42 : decode cd_Fr_of 42 = .ok (.lload 4, 2) := by decide +kernel
theorem de_Fr_of_44 : decode cd_Fr_of 44 = .ok (.ldiv, 1) := by decide +kernel
theorem de_Fr_of_45 : decode cd_Fr_of 45 = .ok (.invokestatic 18, 3) := by decide +kernel
theorem de_Fr_of_48 : decode cd_Fr_of 48 = .ok (.lreturn, 1) := by decide +kernel
def jb_Fr_of_48 (N : Nat) (M : mv_M) (s0 : Int64) : Option (Int64 × mv_M) :=
  some (s0, M)
def jb_Fr_of_0 (N : Nat) (M : mv_M) (v0 : Int64) (v2 : Int64) : Option (Int64 × mv_M) :=
  if (lg_cmp v2 0) = 0 then (some (0, M)) else
  mj_call (jf_Fr_gcd N M v0 v2) fun r10 Mm10 =>
  if 0 ≤ (lg_cmp v2 0) then (if r10 = 0 then none else
  if r10 = 0 then none else
  mj_call (jf_Fr_fit N Mm10 (v0 / r10) (v2 / r10)) fun r45 Mm45 =>
  jb_Fr_of_48 N Mm45 r45) else
  if r10 = 0 then none else
  if r10 = 0 then none else
  mj_call (jf_Fr_fit N Mm10 (-(v0 / r10)) (-(v2 / r10))) fun r31 Mm31 =>
  jb_Fr_of_48 N Mm31 r31
def jf_Fr_of (N : Nat) (M : mv_M) (v0 : Int64) (v2 : Int64) : Option (Int64 × mv_M) := jb_Fr_of_0 N M v0 v2
set_option maxHeartbeats 4000000 in
set_option maxRecDepth 100000 in
theorem tb_Fr_of_48 (l : Launch) (D : va_G) (E : Nat → ClassId) (B : Nat) (sa : (Nat → Nat) × Nat × (Nat → Int32)) (M0 M1 : mv_M) (r : Int64) (N : Nat) (M : mv_M) (s0 : Int64) (hJ : jb_Fr_of_48 N M s0 = some (r, M1)) : mv_G (xg l D E B sa) kd_Fr_of M0 M1 (some (.long r)) M 48 [] [.long s0] := by
  unfold jb_Fr_of_48 at hJ
  exact mv_lret (pc := 48) rfl de_Fr_of_48 hJ
set_option maxHeartbeats 4000000 in
set_option maxRecDepth 100000 in
theorem tb_Fr_of_0 (l : Launch) (D : va_G) (E : Nat → ClassId) (B : Nat) (sa : (Nat → Nat) × Nat × (Nat → Int32)) (M0 M1 : mv_M) (r : Int64) (N : Nat) (M : mv_M) (v0 : Int64) (v2 : Int64) (hJ : jb_Fr_of_0 N M v0 v2 = some (r, M1)) : mv_G (xg l D E B sa) kd_Fr_of M0 M1 (some (.long r)) M 0 [(0, .long v0), (2, .long v2)] [] := by
  unfold jb_Fr_of_0 at hJ
  refine mv_lload_n (pc := 0) (i := 2) de_Fr_of_0 rfl 1 rfl ?_
  refine mv_lconst (pc := 1) (v := 0) de_Fr_of_1 (by decide) ?_
  refine mv_lcmp (pc := 2) de_Fr_of_2 ?_
  refine mv_if_ne (pc := 3) (tgt := 8) de_Fr_of_3 (by decide) hJ (fun hc3 h3 => ?_) (fun hc3 h3 => ?_)
  · refine mv_lconst (pc := 6) (v := 0) de_Fr_of_6 (by decide) ?_
    exact mv_lret (pc := 7) rfl de_Fr_of_7 h3
  · refine mv_lload_n (pc := 8) (i := 0) de_Fr_of_8 rfl 0 rfl ?_
    refine mv_lload_n (pc := 9) (i := 2) de_Fr_of_9 rfl 1 rfl ?_
    obtain ⟨r10, Mm10, hz10, h10⟩ := mj_callE h3
    refine mv_callS (pc := 10) (n := 2) (av := [.long v0, .long v2]) (rest := []) de_Fr_of_10 (cm_Fr_gcd l D E B sa N M v0 v2 _ _ hz10) wt_1_37 wt_1_38 wt_1_3 wt_1_39 ⟨by decide, by decide, by decide +kernel⟩ rfl ⟨Nat.le_of_ble_eq_true rfl, Nat.le_of_ble_eq_true rfl⟩ (Nat.le_of_ble_eq_true rfl) rfl ?_
    refine mv_lstore (pc := 13) (lv' := [(4, .long r10), (0, .long v0), (2, .long v2)]) de_Fr_of_13 (Nat.le_of_ble_eq_true rfl) rfl ?_
    refine mv_lload_n (pc := 15) (i := 2) de_Fr_of_15 rfl 2 rfl ?_
    refine mv_lconst (pc := 16) (v := 0) de_Fr_of_16 (by decide) ?_
    refine mv_lcmp (pc := 17) de_Fr_of_17 ?_
    refine mv_if_ge (pc := 18) (tgt := 37) de_Fr_of_18 (by decide) h10 (fun hc18 h18 => ?_) (fun hc18 h18 => ?_)
    · refine mv_lload_n (pc := 37) (i := 0) de_Fr_of_37 rfl 1 rfl ?_
      refine mv_lload (pc := 38) de_Fr_of_38 0 rfl ?_
      refine mv_ldiv (pc := 40) de_Fr_of_40 h18 (fun hc_40 h40 => ?_)
      refine mv_lload_n (pc := 41) (i := 2) de_Fr_of_41 rfl 2 rfl ?_
      refine mv_lload (pc := 42) de_Fr_of_42 0 rfl ?_
      refine mv_ldiv (pc := 44) de_Fr_of_44 h40 (fun hc_44 h44 => ?_)
      obtain ⟨r45, Mm45, hz45, h45⟩ := mj_callE h44
      refine mv_callS (pc := 45) (n := 2) (av := [.long (v0 / r10), .long (v2 / r10)]) (rest := []) de_Fr_of_45 (cm_Fr_fit l D E B sa N Mm10 (v0 / r10) (v2 / r10) _ _ hz45) wt_1_40 wt_1_41 wt_1_3 wt_1_42 ⟨by decide, by decide, by decide +kernel⟩ rfl ⟨Nat.le_of_ble_eq_true rfl, Nat.le_of_ble_eq_true rfl⟩ (Nat.le_of_ble_eq_true rfl) rfl ?_
      exact mv_sub [] rfl (tb_Fr_of_48 l D E B sa M0 M1 r N Mm45 r45 h45)
    · refine mv_lload_n (pc := 21) (i := 0) de_Fr_of_21 rfl 1 rfl ?_
      refine mv_lload (pc := 22) de_Fr_of_22 0 rfl ?_
      refine mv_ldiv (pc := 24) de_Fr_of_24 h18 (fun hc_24 h24 => ?_)
      refine mv_lneg (pc := 25) de_Fr_of_25 ?_
      refine mv_lload_n (pc := 26) (i := 2) de_Fr_of_26 rfl 2 rfl ?_
      refine mv_lload (pc := 27) de_Fr_of_27 0 rfl ?_
      refine mv_ldiv (pc := 29) de_Fr_of_29 h24 (fun hc_29 h29 => ?_)
      refine mv_lneg (pc := 30) de_Fr_of_30 ?_
      obtain ⟨r31, Mm31, hz31, h31⟩ := mj_callE h29
      refine mv_callS (pc := 31) (n := 2) (av := [.long (-(v0 / r10)), .long (-(v2 / r10))]) (rest := []) de_Fr_of_31 (cm_Fr_fit l D E B sa N Mm10 (-(v0 / r10)) (-(v2 / r10)) _ _ hz31) wt_1_40 wt_1_41 wt_1_3 wt_1_42 ⟨by decide, by decide, by decide +kernel⟩ rfl ⟨Nat.le_of_ble_eq_true rfl, Nat.le_of_ble_eq_true rfl⟩ (Nat.le_of_ble_eq_true rfl) rfl ?_
      refine mv_goto (pc := 34) (tgt := 48) de_Fr_of_34 (by decide) ?_
      exact mv_sub [] rfl (tb_Fr_of_48 l D E B sa M0 M1 r N Mm31 r31 h31)
theorem cm_Fr_of (l : Launch) (D : va_G) (E : Nat → ClassId) (B : Nat) (sa : (Nat → Nat) × Nat × (Nat → Int32)) (N : Nat) (M : mv_M) (v0 : Int64) (v2 : Int64) (r : Int64) (M1 : mv_M) (hJ : jf_Fr_of N M v0 v2 = some (r, M1)) : mv_Met (xg l D E B sa) yn_Fr_of cd_Fr_of 6 (some .long) 1 30 [.long v0, .long v2] M (some (.long r)) M1 :=
  mv_enter (by decide) (Nat.le_of_ble_eq_true rfl) (mv_sub (lv := [(0, .long v0), (2, .long v2)]) [0, 1] rfl (tb_Fr_of_0 l D E B sa M M1 r N M v0 v2 hJ))
/-! ===== PlainLearner$Tape.<init>()V ===== -/
abbrev kd_Tp_init : mv_Kd := (cd_Tp_init, 1, "PlainLearner$Tape", "<init>", none, 2, 55)
theorem de_Tp_init_0 : decode cd_Tp_init 0 = .ok (.aload_n 0, 1) := by decide +kernel
theorem de_Tp_init_1 : decode cd_Tp_init 1 = .ok (.invokespecial 3, 3) := by decide +kernel
theorem de_Tp_init_4 : decode cd_Tp_init 4 = .ok (.aload_n 0, 1) := by decide +kernel
theorem de_Tp_init_5 : decode cd_Tp_init 5 = .ok (.bipush 50, 2) := by decide +kernel
theorem de_Tp_init_7 : decode cd_Tp_init 7 = .ok (.anewarray 11, 3) := by decide +kernel
theorem de_Tp_init_10 : decode cd_Tp_init 10 = .ok (.putfield 13, 3) := by decide +kernel
theorem de_Tp_init_13 : decode cd_Tp_init 13 = .ok (.aload_n 0, 1) := by decide +kernel
theorem de_Tp_init_14 : decode cd_Tp_init 14 = .ok (.lconst 1, 1) := by decide +kernel
theorem de_Tp_init_15 : decode cd_Tp_init 15 = .ok (.ldc2_w 17, 3) := by decide +kernel
theorem de_Tp_init_18 : decode cd_Tp_init 18 = .ok (.invokestatic 19, 3) := by decide +kernel
theorem de_Tp_init_21 : decode cd_Tp_init 21 = .ok (.putfield 25, 3) := by decide +kernel
theorem de_Tp_init_24 : decode cd_Tp_init 24 = .ok (.return_, 1) := by decide +kernel
def jb_Tp_init_0 (N : Nat) (M : mv_M) (v0 : Nat) : Option (Unit × mv_M) :=
  mj_na M 3 (50 : Int32) ((50 : Int32).toNatClampNeg, .inr (.inr (.inr (.inr (fun _ => none))))) fun q7 Mm7 =>
  Option.bind (mj_put Mm7 v0 7 0 (va_rf (some q7))) fun Mm10 =>
  mj_call (jf_Fr_of N Mm10 1 10) fun r18 Mm18 =>
  Option.bind (mj_put Mm18 v0 7 2 (.long r18)) fun Mm21 =>
  some ((), Mm21)
def jf_Tp_init (N : Nat) (M : mv_M) (v0 : Nat) : Option (Unit × mv_M) := jb_Tp_init_0 N M v0
set_option maxHeartbeats 4000000 in
set_option maxRecDepth 100000 in
theorem tb_Tp_init_0 (l : Launch) (D : va_G) (E : Nat → ClassId) (B : Nat) (sa : (Nat → Nat) × Nat × (Nat → Int32)) (M0 M1 : mv_M) (r : Unit) (N : Nat) (M : mv_M) (v0 : Nat) (hJ : jb_Tp_init_0 N M v0 = some (r, M1)) : mv_G (xg l D E B sa) kd_Tp_init M0 M1 none M 0 [(0, va_rf (some v0))] [] := by
  unfold jb_Tp_init_0 at hJ
  refine mv_aload_n (pc := 0) (i := 0) de_Tp_init_0 rfl 0 rfl ?_
  refine mv_objInit (pc := 1) wt_1_30 wt_1_23 wt_1_24 de_Tp_init_1 (Nat.le_of_ble_eq_true rfl) (Nat.le_of_ble_eq_true rfl) (Nat.le_of_ble_eq_true rfl) ?_
  refine mv_aload_n (pc := 4) (i := 0) de_Tp_init_4 rfl 0 rfl ?_
  refine mv_bipush (pc := 5) (v := 50) de_Tp_init_5 (by decide) ?_
  refine mv_nq (pc := 7) (t := 3) rfl wt_1_31 de_Tp_init_7 hJ (fun q7 Mm7 eq7 eM7 h7 => ?_)
  refine mv_putF (pc := 10) (f := 0) (kc_7 l D E B sa) (Nat.le_of_ble_eq_true rfl) wt_1_45 rfl rfl rfl (mv_narA _ _) (mv_fitA _ _) de_Tp_init_10 h7 (fun Mm10 e10 h10 => ?_)
  refine mv_aload_n (pc := 13) (i := 0) de_Tp_init_13 rfl 0 rfl ?_
  refine mv_lconst (pc := 14) (v := 1) de_Tp_init_14 (by decide) ?_
  refine mv_ldc2 (pc := 15) de_Tp_init_15 wt_1_33 ?_
  obtain ⟨r18, Mm18, hz18, h18⟩ := mj_callE h10
  refine mv_callS (pc := 18) (n := 2) (av := [.long 1, .long 10]) (rest := [va_rf (some v0)]) de_Tp_init_18 (cm_Fr_of l D E B sa N Mm10 1 10 _ _ hz18) wt_1_34 wt_1_35 wt_1_3 wt_1_36 ⟨by decide, by decide, by decide +kernel⟩ rfl ⟨Nat.le_of_ble_eq_true rfl, Nat.le_of_ble_eq_true rfl⟩ (Nat.le_of_ble_eq_true rfl) rfl ?_
  refine mv_put (pc := 21) (f := 2) (kc_7 l D E B sa) (Nat.le_of_ble_eq_true rfl) wt_1_48 rfl rfl rfl de_Tp_init_21 h18 (fun Mm21 e21 h21 => ?_)
  exact mv_vret (pc := 24) rfl de_Tp_init_24 h21
theorem cm_Tp_init (l : Launch) (D : va_G) (E : Nat → ClassId) (B : Nat) (sa : (Nat → Nat) × Nat × (Nat → Int32)) (N : Nat) (M : mv_M) (v0 : Nat) (r : Unit) (M1 : mv_M) (hJ : jf_Tp_init N M v0 = some (r, M1)) : mv_Met (xg l D E B sa) yn_Tp_init cd_Tp_init 1 none 2 55 [va_rf (some v0)] M none M1 :=
  mv_enter (by decide) (Nat.le_of_ble_eq_true rfl) (mv_sub (lv := [(0, va_rf (some v0))]) [0] rfl (tb_Tp_init_0 l D E B sa M M1 r N M v0 hJ))
/-! ===== PlainLearner$Table.<init>()V ===== -/
abbrev kd_Ta_init : mv_Kd := (cd_Ta_init, 1, "PlainLearner$Table", "<init>", none, 1, 20)
theorem de_Ta_init_0 : decode cd_Ta_init 0 = .ok (.aload_n 0, 1) := by decide +kernel
theorem de_Ta_init_1 : decode cd_Ta_init 1 = .ok (.invokespecial 3, 3) := by decide +kernel
theorem de_Ta_init_4 : decode cd_Ta_init 4 = .ok (.aload_n 0, 1) := by decide +kernel
theorem de_Ta_init_5 : decode cd_Ta_init 5 = .ok (.sipush 160, 3) := by decide +kernel
theorem de_Ta_init_8 : decode cd_Ta_init 8 = .ok (.newarray .int, 2) := by decide +kernel
theorem de_Ta_init_10 : decode cd_Ta_init 10 = .ok (.putfield 11, 3) := by decide +kernel
theorem de_Ta_init_13 : decode cd_Ta_init 13 = .ok (.aload_n 0, 1) := by decide +kernel
theorem de_Ta_init_14 : decode cd_Ta_init 14 = .ok (.bipush 40, 2) := by decide +kernel
theorem de_Ta_init_16 : decode cd_Ta_init 16 = .ok (.newarray .int, 2) := by decide +kernel
theorem de_Ta_init_18 : decode cd_Ta_init 18 = .ok (.putfield 15, 3) := by decide +kernel
theorem de_Ta_init_21 : decode cd_Ta_init 21 = .ok (.aload_n 0, 1) := by decide +kernel
theorem de_Ta_init_22 : decode cd_Ta_init 22 = .ok (.iconst 4, 1) := by decide +kernel
theorem de_Ta_init_23 : decode cd_Ta_init 23 = .ok (.newarray .int, 2) := by decide +kernel
theorem de_Ta_init_25 : decode cd_Ta_init 25 = .ok (.putfield 18, 3) := by decide +kernel
theorem de_Ta_init_28 : decode cd_Ta_init 28 = .ok (.aload_n 0, 1) := by decide +kernel
theorem de_Ta_init_29 : decode cd_Ta_init 29 = .ok (.iconst 4, 1) := by decide +kernel
theorem de_Ta_init_30 : decode cd_Ta_init 30 = .ok (.newarray .int, 2) := by decide +kernel
theorem de_Ta_init_32 : decode cd_Ta_init 32 = .ok (.putfield 21, 3) := by decide +kernel
theorem de_Ta_init_35 : decode cd_Ta_init 35 = .ok (.return_, 1) := by decide +kernel
def jb_Ta_init_0 (N : Nat) (M : mv_M) (v0 : Nat) : Option (Unit × mv_M) :=
  mj_na M 0 (160 : Int32) ((160 : Int32).toNatClampNeg, .inl (fun _ => 0)) fun q8 Mm8 =>
  Option.bind (mj_put Mm8 v0 6 0 (va_rf (some q8))) fun Mm10 =>
  mj_na Mm10 0 (40 : Int32) ((40 : Int32).toNatClampNeg, .inl (fun _ => 0)) fun q16 Mm16 =>
  Option.bind (mj_put Mm16 v0 6 1 (va_rf (some q16))) fun Mm18 =>
  mj_na Mm18 0 (4 : Int32) ((4 : Int32).toNatClampNeg, .inl (fun _ => 0)) fun q23 Mm23 =>
  Option.bind (mj_put Mm23 v0 6 2 (va_rf (some q23))) fun Mm25 =>
  mj_na Mm25 0 (4 : Int32) ((4 : Int32).toNatClampNeg, .inl (fun _ => 0)) fun q30 Mm30 =>
  Option.bind (mj_put Mm30 v0 6 3 (va_rf (some q30))) fun Mm32 =>
  some ((), Mm32)
def jf_Ta_init (N : Nat) (M : mv_M) (v0 : Nat) : Option (Unit × mv_M) := jb_Ta_init_0 N M v0
set_option maxHeartbeats 4000000 in
set_option maxRecDepth 100000 in
theorem tb_Ta_init_0 (l : Launch) (D : va_G) (E : Nat → ClassId) (B : Nat) (sa : (Nat → Nat) × Nat × (Nat → Int32)) (M0 M1 : mv_M) (r : Unit) (N : Nat) (M : mv_M) (v0 : Nat) (hJ : jb_Ta_init_0 N M v0 = some (r, M1)) : mv_G (xg l D E B sa) kd_Ta_init M0 M1 none M 0 [(0, va_rf (some v0))] [] := by
  unfold jb_Ta_init_0 at hJ
  refine mv_aload_n (pc := 0) (i := 0) de_Ta_init_0 rfl 0 rfl ?_
  refine mv_objInit (pc := 1) wt_1_65 wt_1_23 wt_1_24 de_Ta_init_1 (Nat.le_of_ble_eq_true rfl) (Nat.le_of_ble_eq_true rfl) (Nat.le_of_ble_eq_true rfl) ?_
  refine mv_aload_n (pc := 4) (i := 0) de_Ta_init_4 rfl 0 rfl ?_
  refine mv_sipush (pc := 5) (v := 160) de_Ta_init_5 (by decide) ?_
  refine mv_na (pc := 8) (t := 0) rfl rfl wt_1_83 (fun _ => rfl) (by decide) mv_raI de_Ta_init_8 hJ (fun q8 Mm8 eq8 eM8 h8 => ?_)
  refine mv_putF (pc := 10) (f := 0) (kc_6 l D E B sa) (Nat.le_of_ble_eq_true rfl) wt_1_66 rfl rfl rfl (mv_narA _ _) (mv_fitA _ _) de_Ta_init_10 h8 (fun Mm10 e10 h10 => ?_)
  refine mv_aload_n (pc := 13) (i := 0) de_Ta_init_13 rfl 0 rfl ?_
  refine mv_bipush (pc := 14) (v := 40) de_Ta_init_14 (by decide) ?_
  refine mv_na (pc := 16) (t := 0) rfl rfl wt_1_83 (fun _ => rfl) (by decide) mv_raI de_Ta_init_16 h10 (fun q16 Mm16 eq16 eM16 h16 => ?_)
  refine mv_putF (pc := 18) (f := 1) (kc_6 l D E B sa) (Nat.le_of_ble_eq_true rfl) wt_1_67 rfl rfl rfl (mv_narA _ _) (mv_fitA _ _) de_Ta_init_18 h16 (fun Mm18 e18 h18 => ?_)
  refine mv_aload_n (pc := 21) (i := 0) de_Ta_init_21 rfl 0 rfl ?_
  refine mv_iconst (pc := 22) (v := 4) de_Ta_init_22 (by decide) ?_
  refine mv_na (pc := 23) (t := 0) rfl rfl wt_1_83 (fun _ => rfl) (by decide) mv_raI de_Ta_init_23 h18 (fun q23 Mm23 eq23 eM23 h23 => ?_)
  refine mv_putF (pc := 25) (f := 2) (kc_6 l D E B sa) (Nat.le_of_ble_eq_true rfl) wt_1_68 rfl rfl rfl (mv_narA _ _) (mv_fitA _ _) de_Ta_init_25 h23 (fun Mm25 e25 h25 => ?_)
  refine mv_aload_n (pc := 28) (i := 0) de_Ta_init_28 rfl 0 rfl ?_
  refine mv_iconst (pc := 29) (v := 4) de_Ta_init_29 (by decide) ?_
  refine mv_na (pc := 30) (t := 0) rfl rfl wt_1_83 (fun _ => rfl) (by decide) mv_raI de_Ta_init_30 h25 (fun q30 Mm30 eq30 eM30 h30 => ?_)
  refine mv_putF (pc := 32) (f := 3) (kc_6 l D E B sa) (Nat.le_of_ble_eq_true rfl) wt_1_69 rfl rfl rfl (mv_narA _ _) (mv_fitA _ _) de_Ta_init_32 h30 (fun Mm32 e32 h32 => ?_)
  exact mv_vret (pc := 35) rfl de_Ta_init_35 h32
theorem cm_Ta_init (l : Launch) (D : va_G) (E : Nat → ClassId) (B : Nat) (sa : (Nat → Nat) × Nat × (Nat → Int32)) (N : Nat) (M : mv_M) (v0 : Nat) (r : Unit) (M1 : mv_M) (hJ : jf_Ta_init N M v0 = some (r, M1)) : mv_Met (xg l D E B sa) yn_Ta_init cd_Ta_init 1 none 1 20 [va_rf (some v0)] M none M1 :=
  mv_enter (by decide) (Nat.le_of_ble_eq_true rfl) (mv_sub (lv := [(0, va_rf (some v0))]) [0] rfl (tb_Ta_init_0 l D E B sa M M1 r N M v0 hJ))
/-! ===== PlainLearner$Players.<init>()V ===== -/
abbrev kd_Py_init : mv_Kd := (cd_Py_init, 1, "PlainLearner$Players", "<init>", none, 1, 20)
theorem de_Py_init_0 : decode cd_Py_init 0 = .ok (.aload_n 0, 1) := by decide +kernel
theorem de_Py_init_1 : decode cd_Py_init 1 = .ok (.invokespecial 3, 3) := by decide +kernel
theorem de_Py_init_4 : decode cd_Py_init 4 = .ok (.aload_n 0, 1) := by decide +kernel
theorem de_Py_init_5 : decode cd_Py_init 5 = .ok (.sipush 256, 3) := by decide +kernel
theorem de_Py_init_8 : decode cd_Py_init 8 = .ok (.newarray .int, 2) := by decide +kernel
theorem de_Py_init_10 : decode cd_Py_init 10 = .ok (.putfield 11, 3) := by decide +kernel
theorem de_Py_init_13 : decode cd_Py_init 13 = .ok (.return_, 1) := by decide +kernel
def jb_Py_init_0 (N : Nat) (M : mv_M) (v0 : Nat) : Option (Unit × mv_M) :=
  mj_na M 0 (256 : Int32) ((256 : Int32).toNatClampNeg, .inl (fun _ => 0)) fun q8 Mm8 =>
  Option.bind (mj_put Mm8 v0 3 0 (va_rf (some q8))) fun Mm10 =>
  some ((), Mm10)
def jf_Py_init (N : Nat) (M : mv_M) (v0 : Nat) : Option (Unit × mv_M) := jb_Py_init_0 N M v0
set_option maxHeartbeats 4000000 in
set_option maxRecDepth 100000 in
theorem tb_Py_init_0 (l : Launch) (D : va_G) (E : Nat → ClassId) (B : Nat) (sa : (Nat → Nat) × Nat × (Nat → Int32)) (M0 M1 : mv_M) (r : Unit) (N : Nat) (M : mv_M) (v0 : Nat) (hJ : jb_Py_init_0 N M v0 = some (r, M1)) : mv_G (xg l D E B sa) kd_Py_init M0 M1 none M 0 [(0, va_rf (some v0))] [] := by
  unfold jb_Py_init_0 at hJ
  refine mv_aload_n (pc := 0) (i := 0) de_Py_init_0 rfl 0 rfl ?_
  refine mv_objInit (pc := 1) wt_1_89 wt_1_23 wt_1_24 de_Py_init_1 (Nat.le_of_ble_eq_true rfl) (Nat.le_of_ble_eq_true rfl) (Nat.le_of_ble_eq_true rfl) ?_
  refine mv_aload_n (pc := 4) (i := 0) de_Py_init_4 rfl 0 rfl ?_
  refine mv_sipush (pc := 5) (v := 256) de_Py_init_5 (by decide) ?_
  refine mv_na (pc := 8) (t := 0) rfl rfl wt_1_83 (fun _ => rfl) (by decide) mv_raI de_Py_init_8 hJ (fun q8 Mm8 eq8 eM8 h8 => ?_)
  refine mv_putF (pc := 10) (f := 0) (kc_3 l D E B sa) (Nat.le_of_ble_eq_true rfl) wt_1_90 rfl rfl rfl (mv_narA _ _) (mv_fitA _ _) de_Py_init_10 h8 (fun Mm10 e10 h10 => ?_)
  exact mv_vret (pc := 13) rfl de_Py_init_13 h10
theorem cm_Py_init (l : Launch) (D : va_G) (E : Nat → ClassId) (B : Nat) (sa : (Nat → Nat) × Nat × (Nat → Int32)) (N : Nat) (M : mv_M) (v0 : Nat) (r : Unit) (M1 : mv_M) (hJ : jf_Py_init N M v0 = some (r, M1)) : mv_Met (xg l D E B sa) yn_Py_init cd_Py_init 1 none 1 20 [va_rf (some v0)] M none M1 :=
  mv_enter (by decide) (Nat.le_of_ble_eq_true rfl) (mv_sub (lv := [(0, va_rf (some v0))]) [0] rfl (tb_Py_init_0 l D E B sa M M1 r N M v0 hJ))
/-! ===== PlainLearner$Scores.<init>()V ===== -/
abbrev kd_Sc_init : mv_Kd := (cd_Sc_init, 1, "PlainLearner$Scores", "<init>", none, 1, 20)
theorem de_Sc_init_0 : decode cd_Sc_init 0 = .ok (.aload_n 0, 1) := by decide +kernel
theorem de_Sc_init_1 : decode cd_Sc_init 1 = .ok (.invokespecial 3, 3) := by decide +kernel
theorem de_Sc_init_4 : decode cd_Sc_init 4 = .ok (.aload_n 0, 1) := by decide +kernel
theorem de_Sc_init_5 : decode cd_Sc_init 5 = .ok (.bipush 40, 2) := by decide +kernel
theorem de_Sc_init_7 : decode cd_Sc_init 7 = .ok (.newarray .int, 2) := by decide +kernel
theorem de_Sc_init_9 : decode cd_Sc_init 9 = .ok (.putfield 11, 3) := by decide +kernel
theorem de_Sc_init_12 : decode cd_Sc_init 12 = .ok (.aload_n 0, 1) := by decide +kernel
theorem de_Sc_init_13 : decode cd_Sc_init 13 = .ok (.bipush 40, 2) := by decide +kernel
theorem de_Sc_init_15 : decode cd_Sc_init 15 = .ok (.newarray .boolean, 2) := by decide +kernel
theorem de_Sc_init_17 : decode cd_Sc_init 17 = .ok (.putfield 15, 3) := by decide +kernel
theorem de_Sc_init_20 : decode cd_Sc_init 20 = .ok (.return_, 1) := by decide +kernel
def jb_Sc_init_0 (N : Nat) (M : mv_M) (v0 : Nat) : Option (Unit × mv_M) :=
  mj_na M 0 (40 : Int32) ((40 : Int32).toNatClampNeg, .inl (fun _ => 0)) fun q7 Mm7 =>
  Option.bind (mj_put Mm7 v0 4 0 (va_rf (some q7))) fun Mm9 =>
  mj_na Mm9 2 (40 : Int32) ((40 : Int32).toNatClampNeg, .inl (fun _ => 0)) fun q15 Mm15 =>
  Option.bind (mj_put Mm15 v0 4 1 (va_rf (some q15))) fun Mm17 =>
  some ((), Mm17)
def jf_Sc_init (N : Nat) (M : mv_M) (v0 : Nat) : Option (Unit × mv_M) := jb_Sc_init_0 N M v0
set_option maxHeartbeats 4000000 in
set_option maxRecDepth 100000 in
theorem tb_Sc_init_0 (l : Launch) (D : va_G) (E : Nat → ClassId) (B : Nat) (sa : (Nat → Nat) × Nat × (Nat → Int32)) (M0 M1 : mv_M) (r : Unit) (N : Nat) (M : mv_M) (v0 : Nat) (hJ : jb_Sc_init_0 N M v0 = some (r, M1)) : mv_G (xg l D E B sa) kd_Sc_init M0 M1 none M 0 [(0, va_rf (some v0))] [] := by
  unfold jb_Sc_init_0 at hJ
  refine mv_aload_n (pc := 0) (i := 0) de_Sc_init_0 rfl 0 rfl ?_
  refine mv_objInit (pc := 1) wt_1_103 wt_1_23 wt_1_24 de_Sc_init_1 (Nat.le_of_ble_eq_true rfl) (Nat.le_of_ble_eq_true rfl) (Nat.le_of_ble_eq_true rfl) ?_
  refine mv_aload_n (pc := 4) (i := 0) de_Sc_init_4 rfl 0 rfl ?_
  refine mv_bipush (pc := 5) (v := 40) de_Sc_init_5 (by decide) ?_
  refine mv_na (pc := 7) (t := 0) rfl rfl wt_1_83 (fun _ => rfl) (by decide) mv_raI de_Sc_init_7 hJ (fun q7 Mm7 eq7 eM7 h7 => ?_)
  refine mv_putF (pc := 9) (f := 0) (kc_4 l D E B sa) (Nat.le_of_ble_eq_true rfl) wt_1_104 rfl rfl rfl (mv_narA _ _) (mv_fitA _ _) de_Sc_init_9 h7 (fun Mm9 e9 h9 => ?_)
  refine mv_aload_n (pc := 12) (i := 0) de_Sc_init_12 rfl 0 rfl ?_
  refine mv_bipush (pc := 13) (v := 40) de_Sc_init_13 (by decide) ?_
  refine mv_na (pc := 15) (t := 2) rfl rfl wt_1_115 (fun _ => rfl) (by decide) mv_raZ de_Sc_init_15 h9 (fun q15 Mm15 eq15 eM15 h15 => ?_)
  refine mv_putF (pc := 17) (f := 1) (kc_4 l D E B sa) (Nat.le_of_ble_eq_true rfl) wt_1_105 rfl rfl rfl (mv_narA _ _) (mv_fitA _ _) de_Sc_init_17 h15 (fun Mm17 e17 h17 => ?_)
  exact mv_vret (pc := 20) rfl de_Sc_init_20 h17
theorem cm_Sc_init (l : Launch) (D : va_G) (E : Nat → ClassId) (B : Nat) (sa : (Nat → Nat) × Nat × (Nat → Int32)) (N : Nat) (M : mv_M) (v0 : Nat) (r : Unit) (M1 : mv_M) (hJ : jf_Sc_init N M v0 = some (r, M1)) : mv_Met (xg l D E B sa) yn_Sc_init cd_Sc_init 1 none 1 20 [va_rf (some v0)] M none M1 :=
  mv_enter (by decide) (Nat.le_of_ble_eq_true rfl) (mv_sub (lv := [(0, va_rf (some v0))]) [0] rfl (tb_Sc_init_0 l D E B sa M M1 r N M v0 hJ))
/-! ===== PlainLearner$Tokens.<init>()V ===== -/
abbrev kd_Tk_init : mv_Kd := (cd_Tk_init, 1, "PlainLearner$Tokens", "<init>", none, 1, 20)
theorem de_Tk_init_0 : decode cd_Tk_init 0 = .ok (.aload_n 0, 1) := by decide +kernel
theorem de_Tk_init_1 : decode cd_Tk_init 1 = .ok (.invokespecial 5, 3) := by decide +kernel
theorem de_Tk_init_4 : decode cd_Tk_init 4 = .ok (.aload_n 0, 1) := by decide +kernel
theorem de_Tk_init_5 : decode cd_Tk_init 5 = .ok (.sipush 200, 3) := by decide +kernel
theorem de_Tk_init_8 : decode cd_Tk_init 8 = .ok (.newarray .int, 2) := by decide +kernel
theorem de_Tk_init_10 : decode cd_Tk_init 10 = .ok (.putfield 11, 3) := by decide +kernel
theorem de_Tk_init_13 : decode cd_Tk_init 13 = .ok (.aload_n 0, 1) := by decide +kernel
theorem de_Tk_init_14 : decode cd_Tk_init 14 = .ok (.bipush 60, 2) := by decide +kernel
theorem de_Tk_init_16 : decode cd_Tk_init 16 = .ok (.newarray .int, 2) := by decide +kernel
theorem de_Tk_init_18 : decode cd_Tk_init 18 = .ok (.putfield 15, 3) := by decide +kernel
theorem de_Tk_init_21 : decode cd_Tk_init 21 = .ok (.aload_n 0, 1) := by decide +kernel
theorem de_Tk_init_22 : decode cd_Tk_init 22 = .ok (.bipush 60, 2) := by decide +kernel
theorem de_Tk_init_24 : decode cd_Tk_init 24 = .ok (.newarray .int, 2) := by decide +kernel
theorem de_Tk_init_26 : decode cd_Tk_init 26 = .ok (.putfield 18, 3) := by decide +kernel
theorem de_Tk_init_29 : decode cd_Tk_init 29 = .ok (.aload_n 0, 1) := by decide +kernel
theorem de_Tk_init_30 : decode cd_Tk_init 30 = .ok (.bipush 60, 2) := by decide +kernel
theorem de_Tk_init_32 : decode cd_Tk_init 32 = .ok (.newarray .int, 2) := by decide +kernel
theorem de_Tk_init_34 : decode cd_Tk_init 34 = .ok (.putfield 21, 3) := by decide +kernel
theorem de_Tk_init_37 : decode cd_Tk_init 37 = .ok (.aload_n 0, 1) := by decide +kernel
theorem de_Tk_init_38 : decode cd_Tk_init 38 = .ok (.sipush 7396, 3) := by decide +kernel
theorem de_Tk_init_41 : decode cd_Tk_init 41 = .ok (.newarray .int, 2) := by decide +kernel
theorem de_Tk_init_43 : decode cd_Tk_init 43 = .ok (.putfield 24, 3) := by decide +kernel
theorem de_Tk_init_46 : decode cd_Tk_init 46 = .ok (.return_, 1) := by decide +kernel
def jb_Tk_init_0 (N : Nat) (M : mv_M) (v0 : Nat) : Option (Unit × mv_M) :=
  mj_na M 0 (200 : Int32) ((200 : Int32).toNatClampNeg, .inl (fun _ => 0)) fun q8 Mm8 =>
  Option.bind (mj_put Mm8 v0 8 0 (va_rf (some q8))) fun Mm10 =>
  mj_na Mm10 0 (60 : Int32) ((60 : Int32).toNatClampNeg, .inl (fun _ => 0)) fun q16 Mm16 =>
  Option.bind (mj_put Mm16 v0 8 1 (va_rf (some q16))) fun Mm18 =>
  mj_na Mm18 0 (60 : Int32) ((60 : Int32).toNatClampNeg, .inl (fun _ => 0)) fun q24 Mm24 =>
  Option.bind (mj_put Mm24 v0 8 2 (va_rf (some q24))) fun Mm26 =>
  mj_na Mm26 0 (60 : Int32) ((60 : Int32).toNatClampNeg, .inl (fun _ => 0)) fun q32 Mm32 =>
  Option.bind (mj_put Mm32 v0 8 3 (va_rf (some q32))) fun Mm34 =>
  mj_na Mm34 0 (7396 : Int32) ((7396 : Int32).toNatClampNeg, .inl (fun _ => 0)) fun q41 Mm41 =>
  Option.bind (mj_put Mm41 v0 8 4 (va_rf (some q41))) fun Mm43 =>
  some ((), Mm43)
def jf_Tk_init (N : Nat) (M : mv_M) (v0 : Nat) : Option (Unit × mv_M) := jb_Tk_init_0 N M v0
set_option maxHeartbeats 4000000 in
set_option maxRecDepth 100000 in
theorem tb_Tk_init_0 (l : Launch) (D : va_G) (E : Nat → ClassId) (B : Nat) (sa : (Nat → Nat) × Nat × (Nat → Int32)) (M0 M1 : mv_M) (r : Unit) (N : Nat) (M : mv_M) (v0 : Nat) (hJ : jb_Tk_init_0 N M v0 = some (r, M1)) : mv_G (xg l D E B sa) kd_Tk_init M0 M1 none M 0 [(0, va_rf (some v0))] [] := by
  unfold jb_Tk_init_0 at hJ
  refine mv_aload_n (pc := 0) (i := 0) de_Tk_init_0 rfl 0 rfl ?_
  refine mv_objInit (pc := 1) wt_1_121 wt_1_23 wt_1_24 de_Tk_init_1 (Nat.le_of_ble_eq_true rfl) (Nat.le_of_ble_eq_true rfl) (Nat.le_of_ble_eq_true rfl) ?_
  refine mv_aload_n (pc := 4) (i := 0) de_Tk_init_4 rfl 0 rfl ?_
  refine mv_sipush (pc := 5) (v := 200) de_Tk_init_5 (by decide) ?_
  refine mv_na (pc := 8) (t := 0) rfl rfl wt_1_83 (fun _ => rfl) (by decide) mv_raI de_Tk_init_8 hJ (fun q8 Mm8 eq8 eM8 h8 => ?_)
  refine mv_putF (pc := 10) (f := 0) (kc_8 l D E B sa) (Nat.le_of_ble_eq_true rfl) wt_1_122 rfl rfl rfl (mv_narA _ _) (mv_fitA _ _) de_Tk_init_10 h8 (fun Mm10 e10 h10 => ?_)
  refine mv_aload_n (pc := 13) (i := 0) de_Tk_init_13 rfl 0 rfl ?_
  refine mv_bipush (pc := 14) (v := 60) de_Tk_init_14 (by decide) ?_
  refine mv_na (pc := 16) (t := 0) rfl rfl wt_1_83 (fun _ => rfl) (by decide) mv_raI de_Tk_init_16 h10 (fun q16 Mm16 eq16 eM16 h16 => ?_)
  refine mv_putF (pc := 18) (f := 1) (kc_8 l D E B sa) (Nat.le_of_ble_eq_true rfl) wt_1_123 rfl rfl rfl (mv_narA _ _) (mv_fitA _ _) de_Tk_init_18 h16 (fun Mm18 e18 h18 => ?_)
  refine mv_aload_n (pc := 21) (i := 0) de_Tk_init_21 rfl 0 rfl ?_
  refine mv_bipush (pc := 22) (v := 60) de_Tk_init_22 (by decide) ?_
  refine mv_na (pc := 24) (t := 0) rfl rfl wt_1_83 (fun _ => rfl) (by decide) mv_raI de_Tk_init_24 h18 (fun q24 Mm24 eq24 eM24 h24 => ?_)
  refine mv_putF (pc := 26) (f := 2) (kc_8 l D E B sa) (Nat.le_of_ble_eq_true rfl) wt_1_124 rfl rfl rfl (mv_narA _ _) (mv_fitA _ _) de_Tk_init_26 h24 (fun Mm26 e26 h26 => ?_)
  refine mv_aload_n (pc := 29) (i := 0) de_Tk_init_29 rfl 0 rfl ?_
  refine mv_bipush (pc := 30) (v := 60) de_Tk_init_30 (by decide) ?_
  refine mv_na (pc := 32) (t := 0) rfl rfl wt_1_83 (fun _ => rfl) (by decide) mv_raI de_Tk_init_32 h26 (fun q32 Mm32 eq32 eM32 h32 => ?_)
  refine mv_putF (pc := 34) (f := 3) (kc_8 l D E B sa) (Nat.le_of_ble_eq_true rfl) wt_1_125 rfl rfl rfl (mv_narA _ _) (mv_fitA _ _) de_Tk_init_34 h32 (fun Mm34 e34 h34 => ?_)
  refine mv_aload_n (pc := 37) (i := 0) de_Tk_init_37 rfl 0 rfl ?_
  refine mv_sipush (pc := 38) (v := 7396) de_Tk_init_38 (by decide) ?_
  refine mv_na (pc := 41) (t := 0) rfl rfl wt_1_83 (fun _ => rfl) (by decide) mv_raI de_Tk_init_41 h34 (fun q41 Mm41 eq41 eM41 h41 => ?_)
  refine mv_putF (pc := 43) (f := 4) (kc_8 l D E B sa) (Nat.le_of_ble_eq_true rfl) wt_1_126 rfl rfl rfl (mv_narA _ _) (mv_fitA _ _) de_Tk_init_43 h41 (fun Mm43 e43 h43 => ?_)
  exact mv_vret (pc := 46) rfl de_Tk_init_46 h43
theorem cm_Tk_init (l : Launch) (D : va_G) (E : Nat → ClassId) (B : Nat) (sa : (Nat → Nat) × Nat × (Nat → Int32)) (N : Nat) (M : mv_M) (v0 : Nat) (r : Unit) (M1 : mv_M) (hJ : jf_Tk_init N M v0 = some (r, M1)) : mv_Met (xg l D E B sa) yn_Tk_init cd_Tk_init 1 none 1 20 [va_rf (some v0)] M none M1 :=
  mv_enter (by decide) (Nat.le_of_ble_eq_true rfl) (mv_sub (lv := [(0, va_rf (some v0))]) [0] rfl (tb_Tk_init_0 l D E B sa M M1 r N M v0 hJ))
/-! ===== PlainLearner.<init>()V ===== -/
abbrev kd_PL_init : mv_Kd := (cd_PL_init, 1, "PlainLearner", "<init>", none, 3, 75)
theorem de_PL_init_0 : decode cd_PL_init 0 = .ok (.aload_n 0, 1) := by decide +kernel
theorem de_PL_init_1 : decode cd_PL_init 1 = .ok (.invokespecial 1, 3) := by decide +kernel
theorem de_PL_init_4 : decode cd_PL_init 4 = .ok (.aload_n 0, 1) := by decide +kernel
theorem de_PL_init_5 : decode cd_PL_init 5 = .ok (.new 7, 3) := by decide +kernel
theorem de_PL_init_8 : decode cd_PL_init 8 = .ok (.dup, 1) := by decide +kernel
theorem de_PL_init_9 : decode cd_PL_init 9 = .ok (.invokespecial 9, 3) := by decide +kernel
theorem de_PL_init_12 : decode cd_PL_init 12 = .ok (.putfield 10, 3) := by decide +kernel
theorem de_PL_init_15 : decode cd_PL_init 15 = .ok (.aload_n 0, 1) := by decide +kernel
theorem de_PL_init_16 : decode cd_PL_init 16 = .ok (.new 16, 3) := by decide +kernel
theorem de_PL_init_19 : decode cd_PL_init 19 = .ok (.dup, 1) := by decide +kernel
theorem de_PL_init_20 : decode cd_PL_init 20 = .ok (.invokespecial 18, 3) := by decide +kernel
theorem de_PL_init_23 : decode cd_PL_init 23 = .ok (.putfield 19, 3) := by decide +kernel
theorem de_PL_init_26 : decode cd_PL_init 26 = .ok (.aload_n 0, 1) := by decide +kernel
theorem de_PL_init_27 : decode cd_PL_init 27 = .ok (.new 23, 3) := by decide +kernel
theorem de_PL_init_30 : decode cd_PL_init 30 = .ok (.dup, 1) := by decide +kernel
theorem de_PL_init_31 : decode cd_PL_init 31 = .ok (.invokespecial 25, 3) := by decide +kernel
theorem de_PL_init_34 : decode cd_PL_init 34 = .ok (.putfield 26, 3) := by decide +kernel
theorem de_PL_init_37 : decode cd_PL_init 37 = .ok (.aload_n 0, 1) := by decide +kernel
theorem de_PL_init_38 : decode cd_PL_init 38 = .ok (.new 30, 3) := by decide +kernel
theorem de_PL_init_41 : decode cd_PL_init 41 = .ok (.dup, 1) := by decide +kernel
theorem de_PL_init_42 : decode cd_PL_init 42 = .ok (.invokespecial 32, 3) := by decide +kernel
theorem de_PL_init_45 : decode cd_PL_init 45 = .ok (.putfield 33, 3) := by decide +kernel
theorem de_PL_init_48 : decode cd_PL_init 48 = .ok (.aload_n 0, 1) := by decide +kernel
theorem de_PL_init_49 : decode cd_PL_init 49 = .ok (.new 37, 3) := by decide +kernel
theorem de_PL_init_52 : decode cd_PL_init 52 = .ok (.dup, 1) := by decide +kernel
theorem de_PL_init_53 : decode cd_PL_init 53 = .ok (.invokespecial 39, 3) := by decide +kernel
theorem de_PL_init_56 : decode cd_PL_init 56 = .ok (.putfield 40, 3) := by decide +kernel
theorem de_PL_init_59 : decode cd_PL_init 59 = .ok (.return_, 1) := by decide +kernel
def jb_PL_init_0 (N : Nat) (M : mv_M) (v0 : Nat) : Option (Unit × mv_M) :=
  mj_nw M 7 4 [.null, .int 0, .long 0, .int 0] fun q5 Mm5 =>
  mj_call (jf_Tp_init N Mm5 q5) fun r9 Mm9 =>
  Option.bind (mj_put Mm9 v0 0 0 (va_rf (some q5))) fun Mm12 =>
  mj_nw Mm12 6 5 [.null, .null, .null, .null, .int 0] fun q16 Mm16 =>
  mj_call (jf_Ta_init N Mm16 q16) fun r20 Mm20 =>
  Option.bind (mj_put Mm20 v0 0 1 (va_rf (some q16))) fun Mm23 =>
  mj_nw Mm23 3 2 [.null, .int 0] fun q27 Mm27 =>
  mj_call (jf_Py_init N Mm27 q27) fun r31 Mm31 =>
  Option.bind (mj_put Mm31 v0 0 2 (va_rf (some q27))) fun Mm34 =>
  mj_nw Mm34 4 3 [.null, .null, .int 0] fun q38 Mm38 =>
  mj_call (jf_Sc_init N Mm38 q38) fun r42 Mm42 =>
  Option.bind (mj_put Mm42 v0 0 3 (va_rf (some q38))) fun Mm45 =>
  mj_nw Mm45 8 7 [.null, .null, .null, .null, .null, .int 0, .int 0] fun q49 Mm49 =>
  mj_call (jf_Tk_init N Mm49 q49) fun r53 Mm53 =>
  Option.bind (mj_put Mm53 v0 0 4 (va_rf (some q49))) fun Mm56 =>
  some ((), Mm56)
def jf_PL_init (N : Nat) (M : mv_M) (v0 : Nat) : Option (Unit × mv_M) := jb_PL_init_0 N M v0
set_option maxHeartbeats 4000000 in
set_option maxRecDepth 100000 in
theorem tb_PL_init_0 (l : Launch) (D : va_G) (E : Nat → ClassId) (B : Nat) (sa : (Nat → Nat) × Nat × (Nat → Int32)) (M0 M1 : mv_M) (r : Unit) (N : Nat) (M : mv_M) (v0 : Nat) (hJ : jb_PL_init_0 N M v0 = some (r, M1)) : mv_G (xg l D E B sa) kd_PL_init M0 M1 none M 0 [(0, va_rf (some v0))] [] := by
  unfold jb_PL_init_0 at hJ
  refine mv_aload_n (pc := 0) (i := 0) de_PL_init_0 rfl 0 rfl ?_
  refine mv_objInit (pc := 1) wt_1_22 wt_1_23 wt_1_24 de_PL_init_1 (Nat.le_of_ble_eq_true rfl) (Nat.le_of_ble_eq_true rfl) (Nat.le_of_ble_eq_true rfl) ?_
  refine mv_aload_n (pc := 4) (i := 0) de_PL_init_4 rfl 0 rfl ?_
  refine mv_nw (pc := 5) (kc_7 l D E B sa) wt_1_25 wt_1_26 wt_1_2 (kn_7) de_PL_init_5 hJ (fun q5 Mm5 eq5 eM5 h5 => ?_)
  refine mv_dup (pc := 8) de_PL_init_8 rfl ?_
  obtain ⟨r9, Mm9, hz9, h9⟩ := mj_callE h5
  refine mv_callIN (pc := 9) (n := 0) (host := "PlainLearner") (av := []) (rest := [va_rf (some q5), va_rf (some v0)]) de_PL_init_9 (cm_Tp_init l D E B sa N Mm5 q5 _ _ hz9) nn_0 wt_1_28 wt_1_2 wt_1_29 rfl ⟨by decide, by decide, by decide +kernel⟩ rfl ⟨Nat.le_of_ble_eq_true rfl, Nat.le_of_ble_eq_true rfl⟩ (Nat.le_of_ble_eq_true rfl) rfl ?_
  refine mv_putF (pc := 12) (f := 0) (kc_0 l D E B sa) (Nat.le_of_ble_eq_true rfl) wt_1_146 rfl rfl rfl (mv_narR _ _) (mv_fitR _ _) de_PL_init_12 h9 (fun Mm12 e12 h12 => ?_)
  refine mv_aload_n (pc := 15) (i := 0) de_PL_init_15 rfl 0 rfl ?_
  refine mv_nw (pc := 16) (kc_6 l D E B sa) wt_1_60 wt_1_61 wt_1_4 (kn_6) de_PL_init_16 h12 (fun q16 Mm16 eq16 eM16 h16 => ?_)
  refine mv_dup (pc := 19) de_PL_init_19 rfl ?_
  obtain ⟨r20, Mm20, hz20, h20⟩ := mj_callE h16
  refine mv_callIN (pc := 20) (n := 0) (host := "PlainLearner") (av := []) (rest := [va_rf (some q16), va_rf (some v0)]) de_PL_init_20 (cm_Ta_init l D E B sa N Mm16 q16 _ _ hz20) nn_1 wt_1_63 wt_1_4 wt_1_64 rfl ⟨by decide, by decide, by decide +kernel⟩ rfl ⟨Nat.le_of_ble_eq_true rfl, Nat.le_of_ble_eq_true rfl⟩ (Nat.le_of_ble_eq_true rfl) rfl ?_
  refine mv_putF (pc := 23) (f := 1) (kc_0 l D E B sa) (Nat.le_of_ble_eq_true rfl) wt_1_147 rfl rfl rfl (mv_narR _ _) (mv_fitR _ _) de_PL_init_23 h20 (fun Mm23 e23 h23 => ?_)
  refine mv_aload_n (pc := 26) (i := 0) de_PL_init_26 rfl 0 rfl ?_
  refine mv_nw (pc := 27) (kc_3 l D E B sa) wt_1_84 wt_1_85 wt_1_5 (kn_3) de_PL_init_27 h23 (fun q27 Mm27 eq27 eM27 h27 => ?_)
  refine mv_dup (pc := 30) de_PL_init_30 rfl ?_
  obtain ⟨r31, Mm31, hz31, h31⟩ := mj_callE h27
  refine mv_callIN (pc := 31) (n := 0) (host := "PlainLearner") (av := []) (rest := [va_rf (some q27), va_rf (some v0)]) de_PL_init_31 (cm_Py_init l D E B sa N Mm27 q27 _ _ hz31) nn_2 wt_1_87 wt_1_5 wt_1_88 rfl ⟨by decide, by decide, by decide +kernel⟩ rfl ⟨Nat.le_of_ble_eq_true rfl, Nat.le_of_ble_eq_true rfl⟩ (Nat.le_of_ble_eq_true rfl) rfl ?_
  refine mv_putF (pc := 34) (f := 2) (kc_0 l D E B sa) (Nat.le_of_ble_eq_true rfl) wt_1_148 rfl rfl rfl (mv_narR _ _) (mv_fitR _ _) de_PL_init_34 h31 (fun Mm34 e34 h34 => ?_)
  refine mv_aload_n (pc := 37) (i := 0) de_PL_init_37 rfl 0 rfl ?_
  refine mv_nw (pc := 38) (kc_4 l D E B sa) wt_1_98 wt_1_99 wt_1_6 (kn_4) de_PL_init_38 h34 (fun q38 Mm38 eq38 eM38 h38 => ?_)
  refine mv_dup (pc := 41) de_PL_init_41 rfl ?_
  obtain ⟨r42, Mm42, hz42, h42⟩ := mj_callE h38
  refine mv_callIN (pc := 42) (n := 0) (host := "PlainLearner") (av := []) (rest := [va_rf (some q38), va_rf (some v0)]) de_PL_init_42 (cm_Sc_init l D E B sa N Mm38 q38 _ _ hz42) nn_3 wt_1_101 wt_1_6 wt_1_102 rfl ⟨by decide, by decide, by decide +kernel⟩ rfl ⟨Nat.le_of_ble_eq_true rfl, Nat.le_of_ble_eq_true rfl⟩ (Nat.le_of_ble_eq_true rfl) rfl ?_
  refine mv_putF (pc := 45) (f := 3) (kc_0 l D E B sa) (Nat.le_of_ble_eq_true rfl) wt_1_149 rfl rfl rfl (mv_narR _ _) (mv_fitR _ _) de_PL_init_45 h42 (fun Mm45 e45 h45 => ?_)
  refine mv_aload_n (pc := 48) (i := 0) de_PL_init_48 rfl 0 rfl ?_
  refine mv_nw (pc := 49) (kc_8 l D E B sa) wt_1_116 wt_1_117 wt_1_7 (kn_8) de_PL_init_49 h45 (fun q49 Mm49 eq49 eM49 h49 => ?_)
  refine mv_dup (pc := 52) de_PL_init_52 rfl ?_
  obtain ⟨r53, Mm53, hz53, h53⟩ := mj_callE h49
  refine mv_callIN (pc := 53) (n := 0) (host := "PlainLearner") (av := []) (rest := [va_rf (some q49), va_rf (some v0)]) de_PL_init_53 (cm_Tk_init l D E B sa N Mm49 q49 _ _ hz53) nn_4 wt_1_119 wt_1_7 wt_1_120 rfl ⟨by decide, by decide, by decide +kernel⟩ rfl ⟨Nat.le_of_ble_eq_true rfl, Nat.le_of_ble_eq_true rfl⟩ (Nat.le_of_ble_eq_true rfl) rfl ?_
  refine mv_putF (pc := 56) (f := 4) (kc_0 l D E B sa) (Nat.le_of_ble_eq_true rfl) wt_1_150 rfl rfl rfl (mv_narR _ _) (mv_fitR _ _) de_PL_init_56 h53 (fun Mm56 e56 h56 => ?_)
  exact mv_vret (pc := 59) rfl de_PL_init_59 h56
theorem cm_PL_init (l : Launch) (D : va_G) (E : Nat → ClassId) (B : Nat) (sa : (Nat → Nat) × Nat × (Nat → Int32)) (N : Nat) (M : mv_M) (v0 : Nat) (r : Unit) (M1 : mv_M) (hJ : jf_PL_init N M v0 = some (r, M1)) : mv_Met (xg l D E B sa) yn_PL_init cd_PL_init 1 none 3 75 [va_rf (some v0)] M none M1 :=
  mv_enter (by decide) (Nat.le_of_ble_eq_true rfl) (mv_sub (lv := [(0, va_rf (some v0))]) [0] rfl (tb_PL_init_0 l D E B sa M M1 r N M v0 hJ))
/-! ===== PlainLearner$Shape.isLength(I)Z ===== -/
abbrev kd_Sh_isLength : mv_Kd := (cd_Sh_isLength, 1, "PlainLearner$Shape", "isLength", (some .boolean), 0, 0)
theorem de_Sh_isLength_0 : decode cd_Sh_isLength 0 = .ok (.iload_n 0, 1) := by decide +kernel
theorem de_Sh_isLength_1 : decode cd_Sh_isLength 1 = .ok (.iconst 1, 1) := by decide +kernel
theorem de_Sh_isLength_2 : decode cd_Sh_isLength 2 = .ok (.if_icmp .lt 13, 3) := by decide +kernel
theorem de_Sh_isLength_5 : decode cd_Sh_isLength 5 = .ok (.iload_n 0, 1) := by decide +kernel
theorem de_Sh_isLength_6 : decode cd_Sh_isLength 6 = .ok (.bipush 64, 2) := by decide +kernel
theorem de_Sh_isLength_8 : decode cd_Sh_isLength 8 = .ok (.if_icmp .gt 7, 3) := by decide +kernel
theorem de_Sh_isLength_11 : decode cd_Sh_isLength 11 = .ok (.iconst 1, 1) := by decide +kernel
theorem de_Sh_isLength_12 : decode cd_Sh_isLength 12 = .ok (.goto 4, 3) := by decide +kernel
theorem de_Sh_isLength_15 : decode cd_Sh_isLength 15 = .ok (.iconst 0, 1) := by decide +kernel
theorem de_Sh_isLength_16 : decode cd_Sh_isLength 16 = .ok (.ireturn, 1) := by decide +kernel
def jb_Sh_isLength_16 (N : Nat) (M : mv_M) (s0 : Int32) : Option (Int32 × mv_M) :=
  if s0 = 0 ∨ s0 = 1 then some (s0, M) else none
def jb_Sh_isLength_15 (N : Nat) (M : mv_M) : Option (Int32 × mv_M) :=
  jb_Sh_isLength_16 N M 0
def jb_Sh_isLength_0 (N : Nat) (M : mv_M) (v0 : Int32) : Option (Int32 × mv_M) :=
  if v0 < 1 then (jb_Sh_isLength_15 N M) else
  if 64 < v0 then (jb_Sh_isLength_15 N M) else
  jb_Sh_isLength_16 N M 1
def jf_Sh_isLength (N : Nat) (M : mv_M) (v0 : Int32) : Option (Int32 × mv_M) := jb_Sh_isLength_0 N M v0
set_option maxHeartbeats 4000000 in
set_option maxRecDepth 100000 in
theorem tb_Sh_isLength_16 (l : Launch) (D : va_G) (E : Nat → ClassId) (B : Nat) (sa : (Nat → Nat) × Nat × (Nat → Int32)) (M0 M1 : mv_M) (r : Int32) (N : Nat) (M : mv_M) (s0 : Int32) (hJ : jb_Sh_isLength_16 N M s0 = some (r, M1)) : mv_G (xg l D E B sa) kd_Sh_isLength M0 M1 (some (.int r)) M 16 [] [.int s0] := by
  unfold jb_Sh_isLength_16 at hJ
  exact mv_zret (pc := 16) rfl de_Sh_isLength_16 hJ
set_option maxHeartbeats 4000000 in
set_option maxRecDepth 100000 in
theorem tb_Sh_isLength_15 (l : Launch) (D : va_G) (E : Nat → ClassId) (B : Nat) (sa : (Nat → Nat) × Nat × (Nat → Int32)) (M0 M1 : mv_M) (r : Int32) (N : Nat) (M : mv_M) (hJ : jb_Sh_isLength_15 N M = some (r, M1)) : mv_G (xg l D E B sa) kd_Sh_isLength M0 M1 (some (.int r)) M 15 [] [] := by
  unfold jb_Sh_isLength_15 at hJ
  refine mv_iconst (pc := 15) (v := 0) de_Sh_isLength_15 (by decide) ?_
  exact mv_sub [] rfl (tb_Sh_isLength_16 l D E B sa M0 M1 r N M 0 hJ)
set_option maxHeartbeats 4000000 in
set_option maxRecDepth 100000 in
theorem tb_Sh_isLength_0 (l : Launch) (D : va_G) (E : Nat → ClassId) (B : Nat) (sa : (Nat → Nat) × Nat × (Nat → Int32)) (M0 M1 : mv_M) (r : Int32) (N : Nat) (M : mv_M) (v0 : Int32) (hJ : jb_Sh_isLength_0 N M v0 = some (r, M1)) : mv_G (xg l D E B sa) kd_Sh_isLength M0 M1 (some (.int r)) M 0 [(0, .int v0)] [] := by
  unfold jb_Sh_isLength_0 at hJ
  refine mv_iload_n (pc := 0) (i := 0) de_Sh_isLength_0 rfl 0 rfl ?_
  refine mv_iconst (pc := 1) (v := 1) de_Sh_isLength_1 (by decide) ?_
  refine mv_icmp_lt (pc := 2) (tgt := 15) de_Sh_isLength_2 (by decide) hJ (fun hc2 h2 => ?_) (fun hc2 h2 => ?_)
  · exact mv_sub [] rfl (tb_Sh_isLength_15 l D E B sa M0 M1 r N M h2)
  · refine mv_iload_n (pc := 5) (i := 0) de_Sh_isLength_5 rfl 0 rfl ?_
    refine mv_bipush (pc := 6) (v := 64) de_Sh_isLength_6 (by decide) ?_
    refine mv_icmp_gt (pc := 8) (tgt := 15) de_Sh_isLength_8 (by decide) h2 (fun hc8 h8 => ?_) (fun hc8 h8 => ?_)
    · exact mv_sub [] rfl (tb_Sh_isLength_15 l D E B sa M0 M1 r N M h8)
    · refine mv_iconst (pc := 11) (v := 1) de_Sh_isLength_11 (by decide) ?_
      refine mv_goto (pc := 12) (tgt := 16) de_Sh_isLength_12 (by decide) ?_
      exact mv_sub [] rfl (tb_Sh_isLength_16 l D E B sa M0 M1 r N M 1 h8)
theorem cm_Sh_isLength (l : Launch) (D : va_G) (E : Nat → ClassId) (B : Nat) (sa : (Nat → Nat) × Nat × (Nat → Int32)) (N : Nat) (M : mv_M) (v0 : Int32) (r : Int32) (M1 : mv_M) (hJ : jf_Sh_isLength N M v0 = some (r, M1)) : mv_Met (xg l D E B sa) yn_Sh_isLength cd_Sh_isLength 1 (some .boolean) 0 0 [.int v0] M (some (.int r)) M1 :=
  mv_enter (by decide) (Nat.le_of_ble_eq_true rfl) (mv_sub (lv := [(0, .int v0)]) [0] rfl (tb_Sh_isLength_0 l D E B sa M M1 r N M v0 hJ))
/-! ===== PlainLearner$Shape.<init>(IIII)V ===== -/
abbrev kd_Sh_init : mv_Kd := (cd_Sh_init, 5, "PlainLearner$Shape", "<init>", none, 1, 20)
theorem de_Sh_init_0 : decode cd_Sh_init 0 = .ok (.aload_n 0, 1) := by decide +kernel
theorem de_Sh_init_1 : decode cd_Sh_init 1 = .ok (.invokespecial 1, 3) := by decide +kernel
theorem de_Sh_init_4 : decode cd_Sh_init 4 = .ok (.aload_n 0, 1) := by decide +kernel
theorem de_Sh_init_5 : decode cd_Sh_init 5 = .ok (.iload_n 1, 1) := by decide +kernel
theorem de_Sh_init_6 : decode cd_Sh_init 6 = .ok (.putfield 7, 3) := by decide +kernel
theorem de_Sh_init_9 : decode cd_Sh_init 9 = .ok (.aload_n 0, 1) := by decide +kernel
theorem de_Sh_init_10 : decode cd_Sh_init 10 = .ok (.iload_n 2, 1) := by decide +kernel
theorem de_Sh_init_11 : decode cd_Sh_init 11 = .ok (.putfield 13, 3) := by decide +kernel
theorem de_Sh_init_14 : decode cd_Sh_init 14 = .ok (.aload_n 0, 1) := by decide +kernel
theorem de_Sh_init_15 : decode cd_Sh_init 15 = .ok (.iload_n 3, 1) := by decide +kernel
theorem de_Sh_init_16 : decode cd_Sh_init 16 = .ok (.putfield 16, 3) := by decide +kernel
theorem de_Sh_init_19 : decode cd_Sh_init 19 = .ok (.aload_n 0, 1) := by decide +kernel
theorem de_Sh_init_20 : decode cd_Sh_init 20 = .ok (.iload 4, 2) := by decide +kernel
theorem de_Sh_init_22 : decode cd_Sh_init 22 = .ok (.putfield 19, 3) := by decide +kernel
theorem de_Sh_init_25 : decode cd_Sh_init 25 = .ok (.aload_n 0, 1) := by decide +kernel
theorem de_Sh_init_26 : decode cd_Sh_init 26 = .ok (.iload_n 2, 1) := by decide +kernel
theorem de_Sh_init_27 : decode cd_Sh_init 27 = .ok (.iload_n 3, 1) := by decide +kernel
theorem de_Sh_init_28 : decode cd_Sh_init 28 = .ok (.imul, 1) := by decide +kernel
theorem de_Sh_init_29 : decode cd_Sh_init 29 = .ok (.iload 4, 2) := by decide +kernel
theorem de_Sh_init_31 : decode cd_Sh_init 31 = .ok (.imul, 1) := by decide +kernel
theorem de_Sh_init_32 : decode cd_Sh_init 32 = .ok (.putfield 22, 3) := by decide +kernel
theorem de_Sh_init_35 : decode cd_Sh_init 35 = .ok (.return_, 1) := by decide +kernel
def jb_Sh_init_0 (N : Nat) (M : mv_M) (v0 : Nat) (v1 : Int32) (v2 : Int32) (v3 : Int32) (v4 : Int32) : Option (Unit × mv_M) :=
  Option.bind (mj_put M v0 5 0 (.int v1)) fun Mm6 =>
  Option.bind (mj_put Mm6 v0 5 1 (.int v2)) fun Mm11 =>
  Option.bind (mj_put Mm11 v0 5 2 (.int v3)) fun Mm16 =>
  Option.bind (mj_put Mm16 v0 5 3 (.int v4)) fun Mm22 =>
  Option.bind (mj_put Mm22 v0 5 4 (.int ((v2 * v3) * v4))) fun Mm32 =>
  some ((), Mm32)
def jf_Sh_init (N : Nat) (M : mv_M) (v0 : Nat) (v1 : Int32) (v2 : Int32) (v3 : Int32) (v4 : Int32) : Option (Unit × mv_M) := jb_Sh_init_0 N M v0 v1 v2 v3 v4
set_option maxHeartbeats 4000000 in
set_option maxRecDepth 100000 in
theorem tb_Sh_init_0 (l : Launch) (D : va_G) (E : Nat → ClassId) (B : Nat) (sa : (Nat → Nat) × Nat × (Nat → Int32)) (M0 M1 : mv_M) (r : Unit) (N : Nat) (M : mv_M) (v0 : Nat) (v1 : Int32) (v2 : Int32) (v3 : Int32) (v4 : Int32) (hJ : jb_Sh_init_0 N M v0 v1 v2 v3 v4 = some (r, M1)) : mv_G (xg l D E B sa) kd_Sh_init M0 M1 none M 0 [(0, va_rf (some v0)), (1, .int v1), (2, .int v2), (3, .int v3), (4, .int v4)] [] := by
  unfold jb_Sh_init_0 at hJ
  refine mv_aload_n (pc := 0) (i := 0) de_Sh_init_0 rfl 0 rfl ?_
  refine mv_objInit (pc := 1) wt_1_177 wt_1_23 wt_1_24 de_Sh_init_1 (Nat.le_of_ble_eq_true rfl) (Nat.le_of_ble_eq_true rfl) (Nat.le_of_ble_eq_true rfl) ?_
  refine mv_aload_n (pc := 4) (i := 0) de_Sh_init_4 rfl 0 rfl ?_
  refine mv_iload_n (pc := 5) (i := 1) de_Sh_init_5 rfl 1 rfl ?_
  refine mv_putF (pc := 6) (f := 0) (kc_5 l D E B sa) (Nat.le_of_ble_eq_true rfl) wt_1_178 rfl rfl rfl rfl rfl de_Sh_init_6 hJ (fun Mm6 e6 h6 => ?_)
  refine mv_aload_n (pc := 9) (i := 0) de_Sh_init_9 rfl 0 rfl ?_
  refine mv_iload_n (pc := 10) (i := 2) de_Sh_init_10 rfl 2 rfl ?_
  refine mv_putF (pc := 11) (f := 1) (kc_5 l D E B sa) (Nat.le_of_ble_eq_true rfl) wt_1_181 rfl rfl rfl rfl rfl de_Sh_init_11 h6 (fun Mm11 e11 h11 => ?_)
  refine mv_aload_n (pc := 14) (i := 0) de_Sh_init_14 rfl 0 rfl ?_
  refine mv_iload_n (pc := 15) (i := 3) de_Sh_init_15 rfl 3 rfl ?_
  refine mv_putF (pc := 16) (f := 2) (kc_5 l D E B sa) (Nat.le_of_ble_eq_true rfl) wt_1_184 rfl rfl rfl rfl rfl de_Sh_init_16 h11 (fun Mm16 e16 h16 => ?_)
  refine mv_aload_n (pc := 19) (i := 0) de_Sh_init_19 rfl 0 rfl ?_
  refine mv_iload (pc := 20) de_Sh_init_20 4 rfl ?_
  refine mv_putF (pc := 22) (f := 3) (kc_5 l D E B sa) (Nat.le_of_ble_eq_true rfl) wt_1_187 rfl rfl rfl rfl rfl de_Sh_init_22 h16 (fun Mm22 e22 h22 => ?_)
  refine mv_aload_n (pc := 25) (i := 0) de_Sh_init_25 rfl 0 rfl ?_
  refine mv_iload_n (pc := 26) (i := 2) de_Sh_init_26 rfl 2 rfl ?_
  refine mv_iload_n (pc := 27) (i := 3) de_Sh_init_27 rfl 3 rfl ?_
  refine mv_imul (pc := 28) de_Sh_init_28 ?_
  refine mv_iload (pc := 29) de_Sh_init_29 4 rfl ?_
  refine mv_imul (pc := 31) de_Sh_init_31 ?_
  refine mv_putF (pc := 32) (f := 4) (kc_5 l D E B sa) (Nat.le_of_ble_eq_true rfl) wt_1_190 rfl rfl rfl rfl rfl de_Sh_init_32 h22 (fun Mm32 e32 h32 => ?_)
  exact mv_vret (pc := 35) rfl de_Sh_init_35 h32
theorem cm_Sh_init (l : Launch) (D : va_G) (E : Nat → ClassId) (B : Nat) (sa : (Nat → Nat) × Nat × (Nat → Int32)) (N : Nat) (M : mv_M) (v0 : Nat) (v1 : Int32) (v2 : Int32) (v3 : Int32) (v4 : Int32) (r : Unit) (M1 : mv_M) (hJ : jf_Sh_init N M v0 v1 v2 v3 v4 = some (r, M1)) : mv_Met (xg l D E B sa) yn_Sh_init cd_Sh_init 5 none 1 20 [va_rf (some v0), .int v1, .int v2, .int v3, .int v4] M none M1 :=
  mv_enter (by decide) (Nat.le_of_ble_eq_true rfl) (mv_sub (lv := [(0, va_rf (some v0)), (1, .int v1), (2, .int v2), (3, .int v3), (4, .int v4)]) [0, 1, 2, 3, 4] rfl (tb_Sh_init_0 l D E B sa M M1 r N M v0 v1 v2 v3 v4 hJ))
/-! ===== PlainLearner$Shape.told(IIII)LPlainLearner$Shape; ===== -/
abbrev kd_Sh_told : mv_Kd := (cd_Sh_told, 4, "PlainLearner$Shape", "told", (some (.object "PlainLearner$Shape")), 2, 44)
theorem de_Sh_told_0 : decode cd_Sh_told 0 = .ok (.iload_n 0, 1) := by decide +kernel
theorem de_Sh_told_1 : decode cd_Sh_told 1 = .ok (.ifCond .lt 8, 3) := by decide +kernel
theorem de_Sh_told_4 : decode cd_Sh_told 4 = .ok (.iload_n 0, 1) := by decide +kernel
theorem de_Sh_told_5 : decode cd_Sh_told 5 = .ok (.iconst 3, 1) := by decide +kernel
theorem de_Sh_told_6 : decode cd_Sh_told 6 = .ok (.if_icmp .le 5, 3) := by decide +kernel
theorem de_Sh_told_9 : decode cd_Sh_told 9 = .ok (.aconst_null, 1) := by decide +kernel
theorem de_Sh_told_10 : decode cd_Sh_told 10 = .ok (.areturn, 1) := by decide +kernel
theorem de_Sh_told_11 : decode cd_Sh_told 11 = .ok (.iload_n 0, 1) := by decide +kernel
theorem de_Sh_told_12 : decode cd_Sh_told 12 = .ok (.ifCond .le 10, 3) := by decide +kernel
theorem de_Sh_told_15 : decode cd_Sh_told 15 = .ok (.iload_n 1, 1) := by decide +kernel
theorem de_Sh_told_16 : decode cd_Sh_told 16 = .ok (.invokestatic 25, 3) := by decide +kernel
theorem de_Sh_told_19 : decode cd_Sh_told 19 = .ok (.ifCond .eq 27, 3) := by decide +kernel
theorem de_Sh_told_22 : decode cd_Sh_told 22 = .ok (.iload_n 0, 1) := by decide +kernel
theorem de_Sh_told_23 : decode cd_Sh_told 23 = .ok (.iconst 1, 1) := by decide +kernel
theorem de_Sh_told_24 : decode cd_Sh_told 24 = .ok (.if_icmp .le 10, 3) := by decide +kernel
theorem de_Sh_told_27 : decode cd_Sh_told 27 = .ok (.iload_n 2, 1) := by decide +kernel
theorem de_Sh_told_28 : decode cd_Sh_told 28 = .ok (.invokestatic 25, 3) := by decide +kernel
theorem de_Sh_told_31 : decode cd_Sh_told 31 = .ok (.ifCond .eq 15, 3) := by decide +kernel
theorem de_Sh_told_34 : decode cd_Sh_told 34 = .ok (.iload_n 0, 1) := by decide +kernel
theorem de_Sh_told_35 : decode cd_Sh_told 35 = .ok (.iconst 2, 1) := by decide +kernel
theorem de_Sh_told_36 : decode cd_Sh_told 36 = .ok (.if_icmp .le 12, 3) := by decide +kernel
theorem de_Sh_told_39 : decode cd_Sh_told 39 = .ok (.iload_n 3, 1) := by decide +kernel
theorem de_Sh_told_40 : decode cd_Sh_told 40 = .ok (.invokestatic 25, 3) := by decide +kernel
theorem de_Sh_told_43 : decode cd_Sh_told 43 = .ok (.ifCond .ne 5, 3) := by decide +kernel
theorem de_Sh_told_46 : decode cd_Sh_told 46 = .ok (.aconst_null, 1) := by decide +kernel
theorem de_Sh_told_47 : decode cd_Sh_told 47 = .ok (.areturn, 1) := by decide +kernel
theorem de_Sh_told_48 : decode cd_Sh_told 48 = .ok (.iload_n 0, 1) := by decide +kernel
theorem de_Sh_told_49 : decode cd_Sh_told 49 = .ok (.tableswitch 63 0 2 #[27, 39, 51], 27) := by decide +kernel
theorem de_Sh_told_76 : decode cd_Sh_told 76 = .ok (.new 8, 3) := by decide +kernel
theorem de_Sh_told_79 : decode cd_Sh_told 79 = .ok (.dup, 1) := by decide +kernel
theorem de_Sh_told_80 : decode cd_Sh_told 80 = .ok (.iconst 0, 1) := by decide +kernel
theorem de_Sh_told_81 : decode cd_Sh_told 81 = .ok (.iconst 1, 1) := by decide +kernel
theorem de_Sh_told_82 : decode cd_Sh_told 82 = .ok (.iconst 1, 1) := by decide +kernel
theorem de_Sh_told_83 : decode cd_Sh_told 83 = .ok (.iconst 1, 1) := by decide +kernel
theorem de_Sh_told_84 : decode cd_Sh_told 84 = .ok (.invokespecial 29, 3) := by decide +kernel
theorem de_Sh_told_87 : decode cd_Sh_told 87 = .ok (.areturn, 1) := by decide +kernel
theorem de_Sh_told_88 : decode cd_Sh_told 88 = .ok (.new 8, 3) := by decide +kernel
theorem de_Sh_told_91 : decode cd_Sh_told 91 = .ok (.dup, 1) := by decide +kernel
theorem de_Sh_told_92 : decode cd_Sh_told 92 = .ok (.iconst 1, 1) := by decide +kernel
theorem de_Sh_told_93 : decode cd_Sh_told 93 = .ok (.iconst 1, 1) := by decide +kernel
theorem de_Sh_told_94 : decode cd_Sh_told 94 = .ok (.iconst 1, 1) := by decide +kernel
theorem de_Sh_told_95 : decode cd_Sh_told 95 = .ok (.iload_n 1, 1) := by decide +kernel
theorem de_Sh_told_96 : decode cd_Sh_told 96 = .ok (.invokespecial 29, 3) := by decide +kernel
theorem de_Sh_told_99 : decode cd_Sh_told 99 = .ok (.areturn, 1) := by decide +kernel
theorem de_Sh_told_100 : decode cd_Sh_told 100 = .ok (.new 8, 3) := by decide +kernel
theorem de_Sh_told_103 : decode cd_Sh_told 103 = .ok (.dup, 1) := by decide +kernel
theorem de_Sh_told_104 : decode cd_Sh_told 104 = .ok (.iconst 2, 1) := by decide +kernel
theorem de_Sh_told_105 : decode cd_Sh_told 105 = .ok (.iconst 1, 1) := by decide +kernel
theorem de_Sh_told_106 : decode cd_Sh_told 106 = .ok (.iload_n 1, 1) := by decide +kernel
theorem de_Sh_told_107 : decode cd_Sh_told 107 = .ok (.iload_n 2, 1) := by decide +kernel
theorem de_Sh_told_108 : decode cd_Sh_told 108 = .ok (.invokespecial 29, 3) := by decide +kernel
theorem de_Sh_told_111 : decode cd_Sh_told 111 = .ok (.areturn, 1) := by decide +kernel
theorem de_Sh_told_112 : decode cd_Sh_told 112 = .ok (.new 8, 3) := by decide +kernel
theorem de_Sh_told_115 : decode cd_Sh_told 115 = .ok (.dup, 1) := by decide +kernel
theorem de_Sh_told_116 : decode cd_Sh_told 116 = .ok (.iconst 3, 1) := by decide +kernel
theorem de_Sh_told_117 : decode cd_Sh_told 117 = .ok (.iload_n 1, 1) := by decide +kernel
theorem de_Sh_told_118 : decode cd_Sh_told 118 = .ok (.iload_n 2, 1) := by decide +kernel
theorem de_Sh_told_119 : decode cd_Sh_told 119 = .ok (.iload_n 3, 1) := by decide +kernel
theorem de_Sh_told_120 : decode cd_Sh_told 120 = .ok (.invokespecial 29, 3) := by decide +kernel
theorem de_Sh_told_123 : decode cd_Sh_told 123 = .ok (.areturn, 1) := by decide +kernel
def jb_Sh_told_9 (N : Nat) (M : mv_M) : Option (Option Nat × mv_M) :=
  some (none, M)
def jb_Sh_told_48 (N : Nat) (M : mv_M) (v0 : Int32) (v1 : Int32) (v2 : Int32) (v3 : Int32) : Option (Option Nat × mv_M) :=
  if v0 = 0 then (mj_nw M 5 5 [.int 0, .int 0, .int 0, .int 0, .int 0] fun q76 Mm76 =>
  mj_call (jf_Sh_init N Mm76 q76 0 1 1 1) fun r84 Mm84 =>
  some ((some q76), Mm84)) else
  if v0 = 1 then (mj_nw M 5 5 [.int 0, .int 0, .int 0, .int 0, .int 0] fun q88 Mm88 =>
  mj_call (jf_Sh_init N Mm88 q88 1 1 1 v1) fun r96 Mm96 =>
  some ((some q88), Mm96)) else
  if v0 = 2 then (mj_nw M 5 5 [.int 0, .int 0, .int 0, .int 0, .int 0] fun q100 Mm100 =>
  mj_call (jf_Sh_init N Mm100 q100 2 1 v1 v2) fun r108 Mm108 =>
  some ((some q100), Mm108)) else
  mj_nw M 5 5 [.int 0, .int 0, .int 0, .int 0, .int 0] fun q112 Mm112 =>
  mj_call (jf_Sh_init N Mm112 q112 3 v1 v2 v3) fun r120 Mm120 =>
  some ((some q112), Mm120)
def jb_Sh_told_46 (N : Nat) (M : mv_M) : Option (Option Nat × mv_M) :=
  some (none, M)
def jb_Sh_told_34 (N : Nat) (M : mv_M) (v0 : Int32) (v1 : Int32) (v2 : Int32) (v3 : Int32) : Option (Option Nat × mv_M) :=
  if v0 ≤ 2 then (jb_Sh_told_48 N M v0 v1 v2 v3) else
  mj_call (jf_Sh_isLength N M v3) fun r40 Mm40 =>
  if r40 = 0 then (jb_Sh_told_46 N Mm40) else
  jb_Sh_told_48 N Mm40 v0 v1 v2 v3
def jb_Sh_told_22 (N : Nat) (M : mv_M) (v0 : Int32) (v1 : Int32) (v2 : Int32) (v3 : Int32) : Option (Option Nat × mv_M) :=
  if v0 ≤ 1 then (jb_Sh_told_34 N M v0 v1 v2 v3) else
  mj_call (jf_Sh_isLength N M v2) fun r28 Mm28 =>
  if r28 = 0 then (jb_Sh_told_46 N Mm28) else
  jb_Sh_told_34 N Mm28 v0 v1 v2 v3
def jb_Sh_told_0 (N : Nat) (M : mv_M) (v0 : Int32) (v1 : Int32) (v2 : Int32) (v3 : Int32) : Option (Option Nat × mv_M) :=
  if v0 < 0 then (jb_Sh_told_9 N M) else
  if v0 ≤ 3 then (if v0 ≤ 0 then (jb_Sh_told_22 N M v0 v1 v2 v3) else
  mj_call (jf_Sh_isLength N M v1) fun r16 Mm16 =>
  if r16 = 0 then (jb_Sh_told_46 N Mm16) else
  jb_Sh_told_22 N Mm16 v0 v1 v2 v3) else
  jb_Sh_told_9 N M
def jf_Sh_told (N : Nat) (M : mv_M) (v0 : Int32) (v1 : Int32) (v2 : Int32) (v3 : Int32) : Option (Option Nat × mv_M) := jb_Sh_told_0 N M v0 v1 v2 v3
set_option maxHeartbeats 4000000 in
set_option maxRecDepth 100000 in
theorem tb_Sh_told_9 (l : Launch) (D : va_G) (E : Nat → ClassId) (B : Nat) (sa : (Nat → Nat) × Nat × (Nat → Int32)) (M0 M1 : mv_M) (r : Option Nat) (N : Nat) (M : mv_M) (hJ : jb_Sh_told_9 N M = some (r, M1)) : mv_G (xg l D E B sa) kd_Sh_told M0 M1 (some (va_rf r)) M 9 [] [] := by
  unfold jb_Sh_told_9 at hJ
  refine mv_null (pc := 9) de_Sh_told_9 ?_
  exact mv_aret (pc := 10) rfl (Or.inl ⟨_, rfl⟩) de_Sh_told_10 hJ
set_option maxHeartbeats 4000000 in
set_option maxRecDepth 100000 in
theorem tb_Sh_told_48 (l : Launch) (D : va_G) (E : Nat → ClassId) (B : Nat) (sa : (Nat → Nat) × Nat × (Nat → Int32)) (M0 M1 : mv_M) (r : Option Nat) (N : Nat) (M : mv_M) (v0 : Int32) (v1 : Int32) (v2 : Int32) (v3 : Int32) (hJ : jb_Sh_told_48 N M v0 v1 v2 v3 = some (r, M1)) : mv_G (xg l D E B sa) kd_Sh_told M0 M1 (some (va_rf r)) M 48 [(0, .int v0), (1, .int v1), (2, .int v2), (3, .int v3)] [] := by
  unfold jb_Sh_told_48 at hJ
  refine mv_iload_n (pc := 48) (i := 0) de_Sh_told_48 rfl 0 rfl ?_
  by_cases hs49_0 : v0 = 0
  · rw [if_pos hs49_0] at hJ
    refine mv_tin (pc := 49) (tgt := 76) (off := 27) 0 de_Sh_told_49 hs49_0 (by decide) (by decide) ?_
    refine mv_nw (pc := 76) (kc_5 l D E B sa) wt_1_172 wt_1_173 wt_1_9 (kn_5) de_Sh_told_76 hJ (fun q76 Mm76 eq76 eM76 h76 => ?_)
    refine mv_dup (pc := 79) de_Sh_told_79 rfl ?_
    refine mv_iconst (pc := 80) (v := 0) de_Sh_told_80 (by decide) ?_
    refine mv_iconst (pc := 81) (v := 1) de_Sh_told_81 (by decide) ?_
    refine mv_iconst (pc := 82) (v := 1) de_Sh_told_82 (by decide) ?_
    refine mv_iconst (pc := 83) (v := 1) de_Sh_told_83 (by decide) ?_
    obtain ⟨r84, Mm84, hz84, h84⟩ := mj_callE h76
    refine mv_callI (pc := 84) (n := 4) (av := [.int 0, .int 1, .int 1, .int 1]) (rest := [va_rf (some q76)]) de_Sh_told_84 (cm_Sh_init l D E B sa N Mm76 q76 0 1 1 1 _ _ hz84) wt_1_174 wt_1_175 wt_1_9 wt_1_176 rfl ⟨by decide, by decide, by decide +kernel⟩ rfl ⟨Nat.le_of_ble_eq_true rfl, Nat.le_of_ble_eq_true rfl⟩ (Nat.le_of_ble_eq_true rfl) rfl ?_
    exact mv_aret (pc := 87) rfl (Or.inl ⟨_, rfl⟩) de_Sh_told_87 h84
  rw [if_neg hs49_0] at hJ
  by_cases hs49_1 : v0 = 1
  · rw [if_pos hs49_1] at hJ
    refine mv_tin (pc := 49) (tgt := 88) (off := 39) 1 de_Sh_told_49 hs49_1 (by decide) (by decide) ?_
    refine mv_nw (pc := 88) (kc_5 l D E B sa) wt_1_172 wt_1_173 wt_1_9 (kn_5) de_Sh_told_88 hJ (fun q88 Mm88 eq88 eM88 h88 => ?_)
    refine mv_dup (pc := 91) de_Sh_told_91 rfl ?_
    refine mv_iconst (pc := 92) (v := 1) de_Sh_told_92 (by decide) ?_
    refine mv_iconst (pc := 93) (v := 1) de_Sh_told_93 (by decide) ?_
    refine mv_iconst (pc := 94) (v := 1) de_Sh_told_94 (by decide) ?_
    refine mv_iload_n (pc := 95) (i := 1) de_Sh_told_95 rfl 1 rfl ?_
    obtain ⟨r96, Mm96, hz96, h96⟩ := mj_callE h88
    refine mv_callI (pc := 96) (n := 4) (av := [.int 1, .int 1, .int 1, .int v1]) (rest := [va_rf (some q88)]) de_Sh_told_96 (cm_Sh_init l D E B sa N Mm88 q88 1 1 1 v1 _ _ hz96) wt_1_174 wt_1_175 wt_1_9 wt_1_176 rfl ⟨by decide, by decide, by decide +kernel⟩ rfl ⟨Nat.le_of_ble_eq_true rfl, Nat.le_of_ble_eq_true rfl⟩ (Nat.le_of_ble_eq_true rfl) rfl ?_
    exact mv_aret (pc := 99) rfl (Or.inl ⟨_, rfl⟩) de_Sh_told_99 h96
  rw [if_neg hs49_1] at hJ
  by_cases hs49_2 : v0 = 2
  · rw [if_pos hs49_2] at hJ
    refine mv_tin (pc := 49) (tgt := 100) (off := 51) 2 de_Sh_told_49 hs49_2 (by decide) (by decide) ?_
    refine mv_nw (pc := 100) (kc_5 l D E B sa) wt_1_172 wt_1_173 wt_1_9 (kn_5) de_Sh_told_100 hJ (fun q100 Mm100 eq100 eM100 h100 => ?_)
    refine mv_dup (pc := 103) de_Sh_told_103 rfl ?_
    refine mv_iconst (pc := 104) (v := 2) de_Sh_told_104 (by decide) ?_
    refine mv_iconst (pc := 105) (v := 1) de_Sh_told_105 (by decide) ?_
    refine mv_iload_n (pc := 106) (i := 1) de_Sh_told_106 rfl 1 rfl ?_
    refine mv_iload_n (pc := 107) (i := 2) de_Sh_told_107 rfl 2 rfl ?_
    obtain ⟨r108, Mm108, hz108, h108⟩ := mj_callE h100
    refine mv_callI (pc := 108) (n := 4) (av := [.int 2, .int 1, .int v1, .int v2]) (rest := [va_rf (some q100)]) de_Sh_told_108 (cm_Sh_init l D E B sa N Mm100 q100 2 1 v1 v2 _ _ hz108) wt_1_174 wt_1_175 wt_1_9 wt_1_176 rfl ⟨by decide, by decide, by decide +kernel⟩ rfl ⟨Nat.le_of_ble_eq_true rfl, Nat.le_of_ble_eq_true rfl⟩ (Nat.le_of_ble_eq_true rfl) rfl ?_
    exact mv_aret (pc := 111) rfl (Or.inl ⟨_, rfl⟩) de_Sh_told_111 h108
  rw [if_neg hs49_2] at hJ
  have qhs49_0 := lv_neT (a := 0) hs49_0 (by decide)
  have qhs49_1 := lv_neT (a := 1) hs49_1 (by decide)
  have qhs49_2 := lv_neT (a := 2) hs49_2 (by decide)
  refine mv_tout (pc := 49) (tgt := 112) de_Sh_told_49 (by omega) (by decide) ?_
  refine mv_nw (pc := 112) (kc_5 l D E B sa) wt_1_172 wt_1_173 wt_1_9 (kn_5) de_Sh_told_112 hJ (fun q112 Mm112 eq112 eM112 h112 => ?_)
  refine mv_dup (pc := 115) de_Sh_told_115 rfl ?_
  refine mv_iconst (pc := 116) (v := 3) de_Sh_told_116 (by decide) ?_
  refine mv_iload_n (pc := 117) (i := 1) de_Sh_told_117 rfl 1 rfl ?_
  refine mv_iload_n (pc := 118) (i := 2) de_Sh_told_118 rfl 2 rfl ?_
  refine mv_iload_n (pc := 119) (i := 3) de_Sh_told_119 rfl 3 rfl ?_
  obtain ⟨r120, Mm120, hz120, h120⟩ := mj_callE h112
  refine mv_callI (pc := 120) (n := 4) (av := [.int 3, .int v1, .int v2, .int v3]) (rest := [va_rf (some q112)]) de_Sh_told_120 (cm_Sh_init l D E B sa N Mm112 q112 3 v1 v2 v3 _ _ hz120) wt_1_174 wt_1_175 wt_1_9 wt_1_176 rfl ⟨by decide, by decide, by decide +kernel⟩ rfl ⟨Nat.le_of_ble_eq_true rfl, Nat.le_of_ble_eq_true rfl⟩ (Nat.le_of_ble_eq_true rfl) rfl ?_
  exact mv_aret (pc := 123) rfl (Or.inl ⟨_, rfl⟩) de_Sh_told_123 h120
set_option maxHeartbeats 4000000 in
set_option maxRecDepth 100000 in
theorem tb_Sh_told_46 (l : Launch) (D : va_G) (E : Nat → ClassId) (B : Nat) (sa : (Nat → Nat) × Nat × (Nat → Int32)) (M0 M1 : mv_M) (r : Option Nat) (N : Nat) (M : mv_M) (hJ : jb_Sh_told_46 N M = some (r, M1)) : mv_G (xg l D E B sa) kd_Sh_told M0 M1 (some (va_rf r)) M 46 [] [] := by
  unfold jb_Sh_told_46 at hJ
  refine mv_null (pc := 46) de_Sh_told_46 ?_
  exact mv_aret (pc := 47) rfl (Or.inl ⟨_, rfl⟩) de_Sh_told_47 hJ
set_option maxHeartbeats 4000000 in
set_option maxRecDepth 100000 in
theorem tb_Sh_told_34 (l : Launch) (D : va_G) (E : Nat → ClassId) (B : Nat) (sa : (Nat → Nat) × Nat × (Nat → Int32)) (M0 M1 : mv_M) (r : Option Nat) (N : Nat) (M : mv_M) (v0 : Int32) (v1 : Int32) (v2 : Int32) (v3 : Int32) (hJ : jb_Sh_told_34 N M v0 v1 v2 v3 = some (r, M1)) : mv_G (xg l D E B sa) kd_Sh_told M0 M1 (some (va_rf r)) M 34 [(0, .int v0), (1, .int v1), (2, .int v2), (3, .int v3)] [] := by
  unfold jb_Sh_told_34 at hJ
  refine mv_iload_n (pc := 34) (i := 0) de_Sh_told_34 rfl 0 rfl ?_
  refine mv_iconst (pc := 35) (v := 2) de_Sh_told_35 (by decide) ?_
  refine mv_icmp_le (pc := 36) (tgt := 48) de_Sh_told_36 (by decide) hJ (fun hc36 h36 => ?_) (fun hc36 h36 => ?_)
  · exact mv_sub [0, 1, 2, 3] rfl (tb_Sh_told_48 l D E B sa M0 M1 r N M v0 v1 v2 v3 h36)
  · refine mv_iload_n (pc := 39) (i := 3) de_Sh_told_39 rfl 3 rfl ?_
    obtain ⟨r40, Mm40, hz40, h40⟩ := mj_callE h36
    refine mv_callS (pc := 40) (n := 1) (av := [.int v3]) (rest := []) de_Sh_told_40 (cm_Sh_isLength l D E B sa N M v3 _ _ hz40) wt_1_169 wt_1_170 wt_1_9 wt_1_171 ⟨by decide, by decide, by decide +kernel⟩ rfl ⟨Nat.le_of_ble_eq_true rfl, Nat.le_of_ble_eq_true rfl⟩ (Nat.le_of_ble_eq_true rfl) rfl ?_
    refine mv_if_ne (pc := 43) (tgt := 48) de_Sh_told_43 (by decide) h40 (fun hc43 h43 => ?_) (fun hc43 h43 => ?_)
    · exact mv_sub [] rfl (tb_Sh_told_46 l D E B sa M0 M1 r N Mm40 h43)
    · exact mv_sub [0, 1, 2, 3] rfl (tb_Sh_told_48 l D E B sa M0 M1 r N Mm40 v0 v1 v2 v3 h43)
set_option maxHeartbeats 4000000 in
set_option maxRecDepth 100000 in
theorem tb_Sh_told_22 (l : Launch) (D : va_G) (E : Nat → ClassId) (B : Nat) (sa : (Nat → Nat) × Nat × (Nat → Int32)) (M0 M1 : mv_M) (r : Option Nat) (N : Nat) (M : mv_M) (v0 : Int32) (v1 : Int32) (v2 : Int32) (v3 : Int32) (hJ : jb_Sh_told_22 N M v0 v1 v2 v3 = some (r, M1)) : mv_G (xg l D E B sa) kd_Sh_told M0 M1 (some (va_rf r)) M 22 [(0, .int v0), (1, .int v1), (2, .int v2), (3, .int v3)] [] := by
  unfold jb_Sh_told_22 at hJ
  refine mv_iload_n (pc := 22) (i := 0) de_Sh_told_22 rfl 0 rfl ?_
  refine mv_iconst (pc := 23) (v := 1) de_Sh_told_23 (by decide) ?_
  refine mv_icmp_le (pc := 24) (tgt := 34) de_Sh_told_24 (by decide) hJ (fun hc24 h24 => ?_) (fun hc24 h24 => ?_)
  · exact mv_sub [0, 1, 2, 3] rfl (tb_Sh_told_34 l D E B sa M0 M1 r N M v0 v1 v2 v3 h24)
  · refine mv_iload_n (pc := 27) (i := 2) de_Sh_told_27 rfl 2 rfl ?_
    obtain ⟨r28, Mm28, hz28, h28⟩ := mj_callE h24
    refine mv_callS (pc := 28) (n := 1) (av := [.int v2]) (rest := []) de_Sh_told_28 (cm_Sh_isLength l D E B sa N M v2 _ _ hz28) wt_1_169 wt_1_170 wt_1_9 wt_1_171 ⟨by decide, by decide, by decide +kernel⟩ rfl ⟨Nat.le_of_ble_eq_true rfl, Nat.le_of_ble_eq_true rfl⟩ (Nat.le_of_ble_eq_true rfl) rfl ?_
    refine mv_if_eq (pc := 31) (tgt := 46) de_Sh_told_31 (by decide) h28 (fun hc31 h31 => ?_) (fun hc31 h31 => ?_)
    · exact mv_sub [] rfl (tb_Sh_told_46 l D E B sa M0 M1 r N Mm28 h31)
    · exact mv_sub [0, 1, 2, 3] rfl (tb_Sh_told_34 l D E B sa M0 M1 r N Mm28 v0 v1 v2 v3 h31)
set_option maxHeartbeats 4000000 in
set_option maxRecDepth 100000 in
theorem tb_Sh_told_0 (l : Launch) (D : va_G) (E : Nat → ClassId) (B : Nat) (sa : (Nat → Nat) × Nat × (Nat → Int32)) (M0 M1 : mv_M) (r : Option Nat) (N : Nat) (M : mv_M) (v0 : Int32) (v1 : Int32) (v2 : Int32) (v3 : Int32) (hJ : jb_Sh_told_0 N M v0 v1 v2 v3 = some (r, M1)) : mv_G (xg l D E B sa) kd_Sh_told M0 M1 (some (va_rf r)) M 0 [(0, .int v0), (1, .int v1), (2, .int v2), (3, .int v3)] [] := by
  unfold jb_Sh_told_0 at hJ
  refine mv_iload_n (pc := 0) (i := 0) de_Sh_told_0 rfl 0 rfl ?_
  refine mv_if_lt (pc := 1) (tgt := 9) de_Sh_told_1 (by decide) hJ (fun hc1 h1 => ?_) (fun hc1 h1 => ?_)
  · exact mv_sub [] rfl (tb_Sh_told_9 l D E B sa M0 M1 r N M h1)
  · refine mv_iload_n (pc := 4) (i := 0) de_Sh_told_4 rfl 0 rfl ?_
    refine mv_iconst (pc := 5) (v := 3) de_Sh_told_5 (by decide) ?_
    refine mv_icmp_le (pc := 6) (tgt := 11) de_Sh_told_6 (by decide) h1 (fun hc6 h6 => ?_) (fun hc6 h6 => ?_)
    · refine mv_iload_n (pc := 11) (i := 0) de_Sh_told_11 rfl 0 rfl ?_
      refine mv_if_le (pc := 12) (tgt := 22) de_Sh_told_12 (by decide) h6 (fun hc12 h12 => ?_) (fun hc12 h12 => ?_)
      · exact mv_sub [0, 1, 2, 3] rfl (tb_Sh_told_22 l D E B sa M0 M1 r N M v0 v1 v2 v3 h12)
      · refine mv_iload_n (pc := 15) (i := 1) de_Sh_told_15 rfl 1 rfl ?_
        obtain ⟨r16, Mm16, hz16, h16⟩ := mj_callE h12
        refine mv_callS (pc := 16) (n := 1) (av := [.int v1]) (rest := []) de_Sh_told_16 (cm_Sh_isLength l D E B sa N M v1 _ _ hz16) wt_1_169 wt_1_170 wt_1_9 wt_1_171 ⟨by decide, by decide, by decide +kernel⟩ rfl ⟨Nat.le_of_ble_eq_true rfl, Nat.le_of_ble_eq_true rfl⟩ (Nat.le_of_ble_eq_true rfl) rfl ?_
        refine mv_if_eq (pc := 19) (tgt := 46) de_Sh_told_19 (by decide) h16 (fun hc19 h19 => ?_) (fun hc19 h19 => ?_)
        · exact mv_sub [] rfl (tb_Sh_told_46 l D E B sa M0 M1 r N Mm16 h19)
        · exact mv_sub [0, 1, 2, 3] rfl (tb_Sh_told_22 l D E B sa M0 M1 r N Mm16 v0 v1 v2 v3 h19)
    · exact mv_sub [] rfl (tb_Sh_told_9 l D E B sa M0 M1 r N M h6)
theorem cm_Sh_told (l : Launch) (D : va_G) (E : Nat → ClassId) (B : Nat) (sa : (Nat → Nat) × Nat × (Nat → Int32)) (N : Nat) (M : mv_M) (v0 : Int32) (v1 : Int32) (v2 : Int32) (v3 : Int32) (r : Option Nat) (M1 : mv_M) (hJ : jf_Sh_told N M v0 v1 v2 v3 = some (r, M1)) : mv_Met (xg l D E B sa) yn_Sh_told cd_Sh_told 4 (some (.object "PlainLearner$Shape")) 2 44 [.int v0, .int v1, .int v2, .int v3] M (some (va_rf r)) M1 :=
  mv_enter (by decide) (Nat.le_of_ble_eq_true rfl) (mv_sub (lv := [(0, .int v0), (1, .int v1), (2, .int v2), (3, .int v3)]) [0, 1, 2, 3] rfl (tb_Sh_told_0 l D E B sa M M1 r N M v0 v1 v2 v3 hJ))
/-! ===== PlainLearner$Tape.hasRoom(LPlainLearner$Shape;)Z ===== -/
abbrev kd_Tp_hasRoom : mv_Kd := (cd_Tp_hasRoom, 2, "PlainLearner$Tape", "hasRoom", (some .boolean), 0, 0)
theorem de_Tp_hasRoom_0 : decode cd_Tp_hasRoom 0 = .ok (.aload_n 0, 1) := by decide +kernel
theorem de_Tp_hasRoom_1 : decode cd_Tp_hasRoom 1 = .ok (.getfield 29, 3) := by decide +kernel
theorem de_Tp_hasRoom_4 : decode cd_Tp_hasRoom 4 = .ok (.bipush 50, 2) := by decide +kernel
theorem de_Tp_hasRoom_6 : decode cd_Tp_hasRoom 6 = .ok (.if_icmp .ge 16, 3) := by decide +kernel
theorem de_Tp_hasRoom_9 : decode cd_Tp_hasRoom 9 = .ok (.aload_n 1, 1) := by decide +kernel
theorem de_Tp_hasRoom_10 : decode cd_Tp_hasRoom 10 = .ok (.getfield 74, 3) := by decide +kernel
theorem de_Tp_hasRoom_13 : decode cd_Tp_hasRoom 13 = .ok (.bipush 64, 2) := by decide +kernel
theorem de_Tp_hasRoom_15 : decode cd_Tp_hasRoom 15 = .ok (.if_icmp .gt 7, 3) := by decide +kernel
theorem de_Tp_hasRoom_18 : decode cd_Tp_hasRoom 18 = .ok (.iconst 1, 1) := by decide +kernel
theorem de_Tp_hasRoom_19 : decode cd_Tp_hasRoom 19 = .ok (.goto 4, 3) := by decide +kernel
theorem de_Tp_hasRoom_22 : decode cd_Tp_hasRoom 22 = .ok (.iconst 0, 1) := by decide +kernel
theorem de_Tp_hasRoom_23 : decode cd_Tp_hasRoom 23 = .ok (.ireturn, 1) := by decide +kernel
def jb_Tp_hasRoom_23 (N : Nat) (M : mv_M) (s0 : Int32) : Option (Int32 × mv_M) :=
  if s0 = 0 ∨ s0 = 1 then some (s0, M) else none
def jb_Tp_hasRoom_22 (N : Nat) (M : mv_M) : Option (Int32 × mv_M) :=
  jb_Tp_hasRoom_23 N M 0
def jb_Tp_hasRoom_0 (N : Nat) (M : mv_M) (v0 : Nat) (v1 : Option Nat) : Option (Int32 × mv_M) :=
  Option.bind (mj_getI M v0 7 1) fun x1 =>
  if 50 ≤ x1 then (jb_Tp_hasRoom_22 N M) else
  Option.bind v1 fun a10 =>
  Option.bind (mj_getI M a10 5 4) fun x10 =>
  if 64 < x10 then (jb_Tp_hasRoom_22 N M) else
  jb_Tp_hasRoom_23 N M 1
def jf_Tp_hasRoom (N : Nat) (M : mv_M) (v0 : Nat) (v1 : Option Nat) : Option (Int32 × mv_M) := jb_Tp_hasRoom_0 N M v0 v1
set_option maxHeartbeats 4000000 in
set_option maxRecDepth 100000 in
theorem tb_Tp_hasRoom_23 (l : Launch) (D : va_G) (E : Nat → ClassId) (B : Nat) (sa : (Nat → Nat) × Nat × (Nat → Int32)) (M0 M1 : mv_M) (r : Int32) (N : Nat) (M : mv_M) (s0 : Int32) (hJ : jb_Tp_hasRoom_23 N M s0 = some (r, M1)) : mv_G (xg l D E B sa) kd_Tp_hasRoom M0 M1 (some (.int r)) M 23 [] [.int s0] := by
  unfold jb_Tp_hasRoom_23 at hJ
  exact mv_zret (pc := 23) rfl de_Tp_hasRoom_23 hJ
set_option maxHeartbeats 4000000 in
set_option maxRecDepth 100000 in
theorem tb_Tp_hasRoom_22 (l : Launch) (D : va_G) (E : Nat → ClassId) (B : Nat) (sa : (Nat → Nat) × Nat × (Nat → Int32)) (M0 M1 : mv_M) (r : Int32) (N : Nat) (M : mv_M) (hJ : jb_Tp_hasRoom_22 N M = some (r, M1)) : mv_G (xg l D E B sa) kd_Tp_hasRoom M0 M1 (some (.int r)) M 22 [] [] := by
  unfold jb_Tp_hasRoom_22 at hJ
  refine mv_iconst (pc := 22) (v := 0) de_Tp_hasRoom_22 (by decide) ?_
  exact mv_sub [] rfl (tb_Tp_hasRoom_23 l D E B sa M0 M1 r N M 0 hJ)
set_option maxHeartbeats 4000000 in
set_option maxRecDepth 100000 in
theorem tb_Tp_hasRoom_0 (l : Launch) (D : va_G) (E : Nat → ClassId) (B : Nat) (sa : (Nat → Nat) × Nat × (Nat → Int32)) (M0 M1 : mv_M) (r : Int32) (N : Nat) (M : mv_M) (v0 : Nat) (v1 : Option Nat) (hJ : jb_Tp_hasRoom_0 N M v0 v1 = some (r, M1)) : mv_G (xg l D E B sa) kd_Tp_hasRoom M0 M1 (some (.int r)) M 0 [(0, va_rf (some v0)), (1, va_rf v1)] [] := by
  unfold jb_Tp_hasRoom_0 at hJ
  refine mv_aload_n (pc := 0) (i := 0) de_Tp_hasRoom_0 rfl 0 rfl ?_
  refine mv_getI (pc := 1) (f := 1) (kc_7 l D E B sa) (Nat.le_of_ble_eq_true rfl) wt_1_46 de_Tp_hasRoom_1 hJ (fun x1 e1 h1 => ?_)
  refine mv_bipush (pc := 4) (v := 50) de_Tp_hasRoom_4 (by decide) ?_
  refine mv_icmp_ge (pc := 6) (tgt := 22) de_Tp_hasRoom_6 (by decide) h1 (fun hc6 h6 => ?_) (fun hc6 h6 => ?_)
  · exact mv_sub [] rfl (tb_Tp_hasRoom_22 l D E B sa M0 M1 r N M h6)
  · refine mv_aload_n (pc := 9) (i := 1) de_Tp_hasRoom_9 rfl 1 rfl ?_
    obtain ⟨a10, ha, h10a⟩ := mj_bindE h6
    subst ha
    refine mv_getI (pc := 10) (f := 4) (kc_5 l D E B sa) (Nat.le_of_ble_eq_true rfl) wt_1_192 de_Tp_hasRoom_10 h10a (fun x10 e10 h10 => ?_)
    refine mv_bipush (pc := 13) (v := 64) de_Tp_hasRoom_13 (by decide) ?_
    refine mv_icmp_gt (pc := 15) (tgt := 22) de_Tp_hasRoom_15 (by decide) h10 (fun hc15 h15 => ?_) (fun hc15 h15 => ?_)
    · exact mv_sub [] rfl (tb_Tp_hasRoom_22 l D E B sa M0 M1 r N M h15)
    · refine mv_iconst (pc := 18) (v := 1) de_Tp_hasRoom_18 (by decide) ?_
      refine mv_goto (pc := 19) (tgt := 23) de_Tp_hasRoom_19 (by decide) ?_
      exact mv_sub [] rfl (tb_Tp_hasRoom_23 l D E B sa M0 M1 r N M 1 h15)
theorem cm_Tp_hasRoom (l : Launch) (D : va_G) (E : Nat → ClassId) (B : Nat) (sa : (Nat → Nat) × Nat × (Nat → Int32)) (N : Nat) (M : mv_M) (v0 : Nat) (v1 : Option Nat) (r : Int32) (M1 : mv_M) (hJ : jf_Tp_hasRoom N M v0 v1 = some (r, M1)) : mv_Met (xg l D E B sa) yn_Tp_hasRoom cd_Tp_hasRoom 2 (some .boolean) 0 0 [va_rf (some v0), va_rf v1] M (some (.int r)) M1 := by
  cases v1 <;> exact mv_enter (by decide) (Nat.le_of_ble_eq_true rfl) (mv_sub [0, 1] rfl (tb_Tp_hasRoom_0 l D E B sa M M1 r N M _ _ hJ))
/-! ===== java/util/Arrays.fill([JJ)V ===== -/
abbrev kd_Ja_fill1 : mv_Kd := (cd_Ja_fill1, 5, "java/util/Arrays", "fill", none, 0, 0)
theorem de_Ja_fill1_0 : decode cd_Ja_fill1 0 = .ok (.iconst 0, 1) := by decide +kernel
theorem de_Ja_fill1_1 : decode cd_Ja_fill1 1 = .ok (.istore_n 3, 1) := by decide +kernel
theorem de_Ja_fill1_2 : decode cd_Ja_fill1 2 = .ok (.aload_n 0, 1) := by decide +kernel
theorem de_Ja_fill1_3 : decode cd_Ja_fill1 3 = .ok (.arraylength, 1) := by decide +kernel
theorem de_Ja_fill1_4 : decode cd_Ja_fill1 4 = .ok (.istore 4, 2) := by decide +kernel
theorem de_Ja_fill1_6 : decode cd_Ja_fill1 6 = .ok (.iload_n 3, 1) := by decide +kernel
theorem de_Ja_fill1_7 : decode cd_Ja_fill1 7 = .ok (.iload 4, 2) := by decide +kernel
theorem de_Ja_fill1_9 : decode cd_Ja_fill1 9 = .ok (.if_icmp .ge 13, 3) := by decide +kernel
theorem de_Ja_fill1_12 : decode cd_Ja_fill1 12 = .ok (.aload_n 0, 1) := by decide +kernel
theorem de_Ja_fill1_13 : decode cd_Ja_fill1 13 = .ok (.iload_n 3, 1) := by decide +kernel
theorem de_Ja_fill1_14 : decode cd_Ja_fill1 14 = .ok (.lload_n 1, 1) := by decide +kernel
theorem de_Ja_fill1_15 : decode cd_Ja_fill1 15 = .ok (.lastore, 1) := by decide +kernel
theorem de_Ja_fill1_16 : decode cd_Ja_fill1 16 = .ok (.iinc 3 1, 3) := by decide +kernel
theorem de_Ja_fill1_19 : decode cd_Ja_fill1 19 = .ok (.goto (-13), 3) := by decide +kernel
theorem de_Ja_fill1_22 : decode cd_Ja_fill1 22 = .ok (.return_, 1) := by decide +kernel
def jb_Ja_fill1_6 (N : Nat) : Nat → mv_M → Option Nat → Int64 → Int32 → Int32 → Option (Unit × mv_M)
  | 0, _, _, _, _, _ => none
  | n + 1, M, v0, v1, v3, v4 =>
    if v4 ≤ v3 then (some ((), M)) else
    Option.bind v0 fun a15 =>
    Option.bind (mj_lst M a15 1 v3 v1) fun Mm15 =>
    jb_Ja_fill1_6 N n Mm15 (some a15) v1 (v3 + 1) v4
def jb_Ja_fill1_0 (N : Nat) (M : mv_M) (v0 : Option Nat) (v1 : Int64) : Option (Unit × mv_M) :=
  Option.bind v0 fun a3 =>
  Option.bind (mj_len M a3 1) fun x3 =>
  jb_Ja_fill1_6 N N M (some a3) v1 0 x3
def jf_Ja_fill1 (N : Nat) (M : mv_M) (v0 : Option Nat) (v1 : Int64) : Option (Unit × mv_M) := jb_Ja_fill1_0 N M v0 v1
set_option maxHeartbeats 4000000 in
set_option maxRecDepth 100000 in
theorem tb_Ja_fill1_6 (l : Launch) (D : va_G) (E : Nat → ClassId) (B : Nat) (sa : (Nat → Nat) × Nat × (Nat → Int32)) (M0 M1 : mv_M) (r : Unit) (N : Nat) : ∀ (n : Nat) (M : mv_M) (v0 : Option Nat) (v1 : Int64) (v3 : Int32) (v4 : Int32) (hJ : jb_Ja_fill1_6 N n M v0 v1 v3 v4 = some (r, M1)), mv_G (xg l D E B sa) kd_Ja_fill1 M0 M1 none M 6 [(0, va_rf v0), (1, .long v1), (3, .int v3), (4, .int v4)] [] := by
  intro n
  induction n with
  | zero => intro M v0 v1 v3 v4 hJ; cases hJ
  | succ n ih =>
    intro M v0 v1 v3 v4 hJ
    rw [jb_Ja_fill1_6] at hJ
    refine mv_iload_n (pc := 6) (i := 3) de_Ja_fill1_6 rfl 2 rfl ?_
    refine mv_iload (pc := 7) de_Ja_fill1_7 3 rfl ?_
    refine mv_icmp_ge (pc := 9) (tgt := 22) de_Ja_fill1_9 (by decide) hJ (fun hc9 h9 => ?_) (fun hc9 h9 => ?_)
    · exact mv_vret (pc := 22) rfl de_Ja_fill1_22 h9
    · refine mv_aload_n (pc := 12) (i := 0) de_Ja_fill1_12 rfl 0 rfl ?_
      refine mv_iload_n (pc := 13) (i := 3) de_Ja_fill1_13 rfl 2 rfl ?_
      refine mv_lload_n (pc := 14) (i := 1) de_Ja_fill1_14 rfl 1 rfl ?_
      obtain ⟨a15, ha, h15a⟩ := mj_bindE h9
      subst ha
      refine mv_last (pc := 15) (t := 1) rfl de_Ja_fill1_15 h15a (fun Mm15 e15 h15 => ?_)
      refine mv_iinc (pc := 16) (v := (v3 + 1)) (lv' := [(3, .int (v3 + 1)), (0, va_rf (some a15)), (1, .long v1), (4, .int v4)]) de_Ja_fill1_16 2 rfl rfl (Nat.le_of_ble_eq_true rfl) rfl ?_
      refine mv_goto (pc := 19) (tgt := 6) de_Ja_fill1_19 (by decide) ?_
      exact mv_sub [1, 2, 0, 3] rfl (ih Mm15 (some a15) v1 (v3 + 1) v4 h15)
set_option maxHeartbeats 4000000 in
set_option maxRecDepth 100000 in
theorem tb_Ja_fill1_0 (l : Launch) (D : va_G) (E : Nat → ClassId) (B : Nat) (sa : (Nat → Nat) × Nat × (Nat → Int32)) (M0 M1 : mv_M) (r : Unit) (N : Nat) (M : mv_M) (v0 : Option Nat) (v1 : Int64) (hJ : jb_Ja_fill1_0 N M v0 v1 = some (r, M1)) : mv_G (xg l D E B sa) kd_Ja_fill1 M0 M1 none M 0 [(0, va_rf v0), (1, .long v1)] [] := by
  unfold jb_Ja_fill1_0 at hJ
  refine mv_iconst (pc := 0) (v := 0) de_Ja_fill1_0 (by decide) ?_
  refine mv_istore_n (pc := 1) (i := 3) (lv' := [(3, .int 0), (0, va_rf v0), (1, .long v1)]) de_Ja_fill1_1 rfl (Nat.le_of_ble_eq_true rfl) rfl ?_
  refine mv_aload_n (pc := 2) (i := 0) de_Ja_fill1_2 rfl 1 rfl ?_
  obtain ⟨a3, ha, h3a⟩ := mj_bindE hJ
  subst ha
  refine mv_alen (pc := 3) (t := 1) rfl de_Ja_fill1_3 h3a (fun x3 e3 h3 => ?_)
  refine mv_istore (pc := 4) (lv' := [(4, .int x3), (3, .int 0), (0, va_rf (some a3)), (1, .long v1)]) de_Ja_fill1_4 (Nat.le_of_ble_eq_true rfl) rfl ?_
  exact mv_sub [2, 3, 1, 0] rfl (tb_Ja_fill1_6 l D E B sa M0 M1 r N N M (some a3) v1 0 x3 h3)
theorem cm_Ja_fill1 (l : Launch) (D : va_G) (E : Nat → ClassId) (B : Nat) (sa : (Nat → Nat) × Nat × (Nat → Int32)) (N : Nat) (M : mv_M) (v0 : Option Nat) (v1 : Int64) (r : Unit) (M1 : mv_M) (hJ : jf_Ja_fill1 N M v0 v1 = some (r, M1)) : mv_Met (xg l D E B sa) yn_Ja_fill1 cd_Ja_fill1 5 none 0 0 [va_rf v0, .long v1] M none M1 := by
  cases v0 <;> exact mv_enter (by decide) (Nat.le_of_ble_eq_true rfl) (mv_sub [0, 1] rfl (tb_Ja_fill1_0 l D E B sa M M1 r N M _ _ hJ))
/-! ===== PlainLearner$Node.<init>(LPlainLearner$Shape;)V ===== -/
abbrev kd_No_init0 : mv_Kd := (cd_No_init0, 2, "PlainLearner$Node", "<init>", none, 1, 24)
theorem de_No_init0_0 : decode cd_No_init0 0 = .ok (.aload_n 0, 1) := by decide +kernel
theorem de_No_init0_1 : decode cd_No_init0 1 = .ok (.invokespecial 3, 3) := by decide +kernel
theorem de_No_init0_4 : decode cd_No_init0 4 = .ok (.aload_n 0, 1) := by decide +kernel
theorem de_No_init0_5 : decode cd_No_init0 5 = .ok (.aload_n 1, 1) := by decide +kernel
theorem de_No_init0_6 : decode cd_No_init0 6 = .ok (.putfield 9, 3) := by decide +kernel
theorem de_No_init0_9 : decode cd_No_init0 9 = .ok (.aload_n 0, 1) := by decide +kernel
theorem de_No_init0_10 : decode cd_No_init0 10 = .ok (.bipush (-2), 2) := by decide +kernel
theorem de_No_init0_12 : decode cd_No_init0 12 = .ok (.putfield 15, 3) := by decide +kernel
theorem de_No_init0_15 : decode cd_No_init0 15 = .ok (.aload_n 0, 1) := by decide +kernel
theorem de_No_init0_16 : decode cd_No_init0 16 = .ok (.bipush (-2), 2) := by decide +kernel
theorem de_No_init0_18 : decode cd_No_init0 18 = .ok (.putfield 19, 3) := by decide +kernel
theorem de_No_init0_21 : decode cd_No_init0 21 = .ok (.aload_n 0, 1) := by decide +kernel
theorem de_No_init0_22 : decode cd_No_init0 22 = .ok (.bipush (-2), 2) := by decide +kernel
theorem de_No_init0_24 : decode cd_No_init0 24 = .ok (.putfield 22, 3) := by decide +kernel
theorem de_No_init0_27 : decode cd_No_init0 27 = .ok (.aload_n 0, 1) := by decide +kernel
theorem de_No_init0_28 : decode cd_No_init0 28 = .ok (.aconst_null, 1) := by decide +kernel
theorem de_No_init0_29 : decode cd_No_init0 29 = .ok (.putfield 25, 3) := by decide +kernel
theorem de_No_init0_32 : decode cd_No_init0 32 = .ok (.aload_n 0, 1) := by decide +kernel
theorem de_No_init0_33 : decode cd_No_init0 33 = .ok (.aconst_null, 1) := by decide +kernel
theorem de_No_init0_34 : decode cd_No_init0 34 = .ok (.putfield 29, 3) := by decide +kernel
theorem de_No_init0_37 : decode cd_No_init0 37 = .ok (.aload_n 0, 1) := by decide +kernel
theorem de_No_init0_38 : decode cd_No_init0 38 = .ok (.aconst_null, 1) := by decide +kernel
theorem de_No_init0_39 : decode cd_No_init0 39 = .ok (.putfield 32, 3) := by decide +kernel
theorem de_No_init0_42 : decode cd_No_init0 42 = .ok (.aload_n 0, 1) := by decide +kernel
theorem de_No_init0_43 : decode cd_No_init0 43 = .ok (.aconst_null, 1) := by decide +kernel
theorem de_No_init0_44 : decode cd_No_init0 44 = .ok (.putfield 36, 3) := by decide +kernel
theorem de_No_init0_47 : decode cd_No_init0 47 = .ok (.aload_n 0, 1) := by decide +kernel
theorem de_No_init0_48 : decode cd_No_init0 48 = .ok (.iconst 0, 1) := by decide +kernel
theorem de_No_init0_49 : decode cd_No_init0 49 = .ok (.putfield 39, 3) := by decide +kernel
theorem de_No_init0_52 : decode cd_No_init0 52 = .ok (.aload_n 0, 1) := by decide +kernel
theorem de_No_init0_53 : decode cd_No_init0 53 = .ok (.aload_n 1, 1) := by decide +kernel
theorem de_No_init0_54 : decode cd_No_init0 54 = .ok (.getfield 42, 3) := by decide +kernel
theorem de_No_init0_57 : decode cd_No_init0 57 = .ok (.newarray .long, 2) := by decide +kernel
theorem de_No_init0_59 : decode cd_No_init0 59 = .ok (.putfield 47, 3) := by decide +kernel
theorem de_No_init0_62 : decode cd_No_init0 62 = .ok (.aload_n 0, 1) := by decide +kernel
theorem de_No_init0_63 : decode cd_No_init0 63 = .ok (.aload_n 1, 1) := by decide +kernel
theorem de_No_init0_64 : decode cd_No_init0 64 = .ok (.getfield 42, 3) := by decide +kernel
theorem de_No_init0_67 : decode cd_No_init0 67 = .ok (.newarray .long, 2) := by decide +kernel
theorem de_No_init0_69 : decode cd_No_init0 69 = .ok (.putfield 51, 3) := by decide +kernel
theorem de_No_init0_72 : decode cd_No_init0 72 = .ok (.aload_n 0, 1) := by decide +kernel
theorem de_No_init0_73 : decode cd_No_init0 73 = .ok (.getfield 47, 3) := by decide +kernel
theorem de_No_init0_76 : decode cd_No_init0 76 = .ok (.lconst 1, 1) := by decide +kernel
theorem de_No_init0_77 : decode cd_No_init0 77 = .ok (.invokestatic 56, 3) := by decide +kernel
theorem de_No_init0_80 : decode cd_No_init0 80 = .ok (.return_, 1) := by decide +kernel
def jb_No_init0_0 (N : Nat) (M : mv_M) (v0 : Nat) (v1 : Option Nat) : Option (Unit × mv_M) :=
  Option.bind (mj_put M v0 2 0 (va_rf v1)) fun Mm6 =>
  Option.bind (mj_put Mm6 v0 2 1 (.int (-2))) fun Mm12 =>
  Option.bind (mj_put Mm12 v0 2 2 (.int (-2))) fun Mm18 =>
  Option.bind (mj_put Mm18 v0 2 3 (.int (-2))) fun Mm24 =>
  Option.bind (mj_put Mm24 v0 2 4 (va_rf none)) fun Mm29 =>
  Option.bind (mj_put Mm29 v0 2 5 (va_rf none)) fun Mm34 =>
  Option.bind (mj_put Mm34 v0 2 6 (va_rf none)) fun Mm39 =>
  Option.bind (mj_put Mm39 v0 2 7 (va_rf none)) fun Mm44 =>
  Option.bind (mj_put Mm44 v0 2 8 (.int 0)) fun Mm49 =>
  Option.bind v1 fun a54 =>
  Option.bind (mj_getI Mm49 a54 5 4) fun x54 =>
  mj_na Mm49 1 x54 (x54.toNatClampNeg, .inr (.inl (fun _ => 0))) fun q57 Mm57 =>
  Option.bind (mj_put Mm57 v0 2 9 (va_rf (some q57))) fun Mm59 =>
  Option.bind (mj_getI Mm59 a54 5 4) fun x64 =>
  mj_na Mm59 1 x64 (x64.toNatClampNeg, .inr (.inl (fun _ => 0))) fun q67 Mm67 =>
  Option.bind (mj_put Mm67 v0 2 10 (va_rf (some q67))) fun Mm69 =>
  Option.bind (mj_getR Mm69 v0 2 9) fun x73 =>
  mj_call (jf_Ja_fill1 N Mm69 x73 1) fun r77 Mm77 =>
  some ((), Mm77)
def jf_No_init0 (N : Nat) (M : mv_M) (v0 : Nat) (v1 : Option Nat) : Option (Unit × mv_M) := jb_No_init0_0 N M v0 v1
set_option maxHeartbeats 4000000 in
set_option maxRecDepth 100000 in
theorem tb_No_init0_0 (l : Launch) (D : va_G) (E : Nat → ClassId) (B : Nat) (sa : (Nat → Nat) × Nat × (Nat → Int32)) (M0 M1 : mv_M) (r : Unit) (N : Nat) (M : mv_M) (v0 : Nat) (v1 : Option Nat) (hJ : jb_No_init0_0 N M v0 v1 = some (r, M1)) : mv_G (xg l D E B sa) kd_No_init0 M0 M1 none M 0 [(0, va_rf (some v0)), (1, va_rf v1)] [] := by
  unfold jb_No_init0_0 at hJ
  refine mv_aload_n (pc := 0) (i := 0) de_No_init0_0 rfl 0 rfl ?_
  refine mv_objInit (pc := 1) wt_1_216 wt_1_23 wt_1_24 de_No_init0_1 (Nat.le_of_ble_eq_true rfl) (Nat.le_of_ble_eq_true rfl) (Nat.le_of_ble_eq_true rfl) ?_
  refine mv_aload_n (pc := 4) (i := 0) de_No_init0_4 rfl 0 rfl ?_
  refine mv_aload_n (pc := 5) (i := 1) de_No_init0_5 rfl 1 rfl ?_
  refine mv_putF (pc := 6) (f := 0) (kc_2 l D E B sa) (Nat.le_of_ble_eq_true rfl) wt_1_220 rfl rfl rfl (mv_narR _ _) (mv_fitR _ _) de_No_init0_6 hJ (fun Mm6 e6 h6 => ?_)
  refine mv_aload_n (pc := 9) (i := 0) de_No_init0_9 rfl 0 rfl ?_
  refine mv_bipush (pc := 10) (v := (-2)) de_No_init0_10 (by decide) ?_
  refine mv_putF (pc := 12) (f := 1) (kc_2 l D E B sa) (Nat.le_of_ble_eq_true rfl) wt_1_222 rfl rfl rfl rfl rfl de_No_init0_12 h6 (fun Mm12 e12 h12 => ?_)
  refine mv_aload_n (pc := 15) (i := 0) de_No_init0_15 rfl 0 rfl ?_
  refine mv_bipush (pc := 16) (v := (-2)) de_No_init0_16 (by decide) ?_
  refine mv_putF (pc := 18) (f := 2) (kc_2 l D E B sa) (Nat.le_of_ble_eq_true rfl) wt_1_223 rfl rfl rfl rfl rfl de_No_init0_18 h12 (fun Mm18 e18 h18 => ?_)
  refine mv_aload_n (pc := 21) (i := 0) de_No_init0_21 rfl 0 rfl ?_
  refine mv_bipush (pc := 22) (v := (-2)) de_No_init0_22 (by decide) ?_
  refine mv_putF (pc := 24) (f := 3) (kc_2 l D E B sa) (Nat.le_of_ble_eq_true rfl) wt_1_224 rfl rfl rfl rfl rfl de_No_init0_24 h18 (fun Mm24 e24 h24 => ?_)
  refine mv_aload_n (pc := 27) (i := 0) de_No_init0_27 rfl 0 rfl ?_
  refine mv_null (pc := 28) de_No_init0_28 ?_
  refine mv_putF (pc := 29) (f := 4) (kc_2 l D E B sa) (Nat.le_of_ble_eq_true rfl) wt_1_225 rfl rfl rfl (mv_narR _ _) (mv_fitR _ _) de_No_init0_29 h24 (fun Mm29 e29 h29 => ?_)
  refine mv_aload_n (pc := 32) (i := 0) de_No_init0_32 rfl 0 rfl ?_
  refine mv_null (pc := 33) de_No_init0_33 ?_
  refine mv_putF (pc := 34) (f := 5) (kc_2 l D E B sa) (Nat.le_of_ble_eq_true rfl) wt_1_227 rfl rfl rfl (mv_narR _ _) (mv_fitR _ _) de_No_init0_34 h29 (fun Mm34 e34 h34 => ?_)
  refine mv_aload_n (pc := 37) (i := 0) de_No_init0_37 rfl 0 rfl ?_
  refine mv_null (pc := 38) de_No_init0_38 ?_
  refine mv_putF (pc := 39) (f := 6) (kc_2 l D E B sa) (Nat.le_of_ble_eq_true rfl) wt_1_229 rfl rfl rfl (mv_narR _ _) (mv_fitR _ _) de_No_init0_39 h34 (fun Mm39 e39 h39 => ?_)
  refine mv_aload_n (pc := 42) (i := 0) de_No_init0_42 rfl 0 rfl ?_
  refine mv_null (pc := 43) de_No_init0_43 ?_
  refine mv_putF (pc := 44) (f := 7) (kc_2 l D E B sa) (Nat.le_of_ble_eq_true rfl) wt_1_230 rfl rfl rfl (mv_narR _ _) (mv_fitR _ _) de_No_init0_44 h39 (fun Mm44 e44 h44 => ?_)
  refine mv_aload_n (pc := 47) (i := 0) de_No_init0_47 rfl 0 rfl ?_
  refine mv_iconst (pc := 48) (v := 0) de_No_init0_48 (by decide) ?_
  refine mv_putF (pc := 49) (f := 8) (kc_2 l D E B sa) (Nat.le_of_ble_eq_true rfl) wt_1_231 rfl rfl rfl rfl rfl de_No_init0_49 h44 (fun Mm49 e49 h49 => ?_)
  refine mv_aload_n (pc := 52) (i := 0) de_No_init0_52 rfl 0 rfl ?_
  refine mv_aload_n (pc := 53) (i := 1) de_No_init0_53 rfl 1 rfl ?_
  obtain ⟨a54, ha, h54a⟩ := mj_bindE h49
  subst ha
  refine mv_getI (pc := 54) (f := 4) (kc_5 l D E B sa) (Nat.le_of_ble_eq_true rfl) wt_1_191 de_No_init0_54 h54a (fun x54 e54 h54 => ?_)
  refine mv_na (pc := 57) (t := 1) rfl rfl wt_2_27 (fun _ => rfl) (by decide) mv_raL de_No_init0_57 h54 (fun q57 Mm57 eq57 eM57 h57 => ?_)
  refine mv_putF (pc := 59) (f := 9) (kc_2 l D E B sa) (Nat.le_of_ble_eq_true rfl) wt_1_232 rfl rfl rfl (mv_narA _ _) (mv_fitA _ _) de_No_init0_59 h57 (fun Mm59 e59 h59 => ?_)
  refine mv_aload_n (pc := 62) (i := 0) de_No_init0_62 rfl 0 rfl ?_
  refine mv_aload_n (pc := 63) (i := 1) de_No_init0_63 rfl 1 rfl ?_
  refine mv_getI (pc := 64) (f := 4) (kc_5 l D E B sa) (Nat.le_of_ble_eq_true rfl) wt_1_191 de_No_init0_64 h59 (fun x64 e64 h64 => ?_)
  refine mv_na (pc := 67) (t := 1) rfl rfl wt_2_27 (fun _ => rfl) (by decide) mv_raL de_No_init0_67 h64 (fun q67 Mm67 eq67 eM67 h67 => ?_)
  refine mv_putF (pc := 69) (f := 10) (kc_2 l D E B sa) (Nat.le_of_ble_eq_true rfl) wt_1_235 rfl rfl rfl (mv_narA _ _) (mv_fitA _ _) de_No_init0_69 h67 (fun Mm69 e69 h69 => ?_)
  refine mv_aload_n (pc := 72) (i := 0) de_No_init0_72 rfl 0 rfl ?_
  refine mv_getR (pc := 73) (f := 9) (kc_2 l D E B sa) (Nat.le_of_ble_eq_true rfl) wt_1_232 de_No_init0_73 h69 (fun x73 e73 h73 => ?_)
  refine mv_lconst (pc := 76) (v := 1) de_No_init0_76 (by decide) ?_
  obtain ⟨r77, Mm77, hz77, h77⟩ := mj_callE h73
  refine mv_callS (pc := 77) (n := 2) (av := [va_rf x73, .long 1]) (rest := []) de_No_init0_77 (cm_Ja_fill1 l D E B sa N Mm69 x73 1 _ _ hz77) wt_1_217 wt_1_218 wt_1_11 wt_1_219 ⟨by decide, by decide, by decide +kernel⟩ rfl ⟨Nat.le_of_ble_eq_true rfl, Nat.le_of_ble_eq_true rfl⟩ (Nat.le_of_ble_eq_true rfl) rfl ?_
  exact mv_vret (pc := 80) rfl de_No_init0_80 h77
theorem cm_No_init0 (l : Launch) (D : va_G) (E : Nat → ClassId) (B : Nat) (sa : (Nat → Nat) × Nat × (Nat → Int32)) (N : Nat) (M : mv_M) (v0 : Nat) (v1 : Option Nat) (r : Unit) (M1 : mv_M) (hJ : jf_No_init0 N M v0 v1 = some (r, M1)) : mv_Met (xg l D E B sa) yn_No_init0 cd_No_init0 2 none 1 24 [va_rf (some v0), va_rf v1] M none M1 := by
  cases v1 <;> exact mv_enter (by decide) (Nat.le_of_ble_eq_true rfl) (mv_sub [0, 1] rfl (tb_No_init0_0 l D E B sa M M1 r N M _ _ hJ))
/-! ===== PlainLearner$Tape.append(LPlainLearner$Node;)I ===== -/
abbrev kd_Tp_append : mv_Kd := (cd_Tp_append, 2, "PlainLearner$Tape", "append", (some .int), 0, 0)
theorem de_Tp_append_0 : decode cd_Tp_append 0 = .ok (.aload_n 0, 1) := by decide +kernel
theorem de_Tp_append_1 : decode cd_Tp_append 1 = .ok (.getfield 13, 3) := by decide +kernel
theorem de_Tp_append_4 : decode cd_Tp_append 4 = .ok (.aload_n 0, 1) := by decide +kernel
theorem de_Tp_append_5 : decode cd_Tp_append 5 = .ok (.getfield 29, 3) := by decide +kernel
theorem de_Tp_append_8 : decode cd_Tp_append 8 = .ok (.aload_n 1, 1) := by decide +kernel
theorem de_Tp_append_9 : decode cd_Tp_append 9 = .ok (.aastore, 1) := by decide +kernel
theorem de_Tp_append_10 : decode cd_Tp_append 10 = .ok (.aload_n 0, 1) := by decide +kernel
theorem de_Tp_append_11 : decode cd_Tp_append 11 = .ok (.dup, 1) := by decide +kernel
theorem de_Tp_append_12 : decode cd_Tp_append 12 = .ok (.getfield 29, 3) := by decide +kernel
theorem de_Tp_append_15 : decode cd_Tp_append 15 = .ok (.iconst 1, 1) := by decide +kernel
theorem de_Tp_append_16 : decode cd_Tp_append 16 = .ok (.iadd, 1) := by decide +kernel
theorem de_Tp_append_17 : decode cd_Tp_append 17 = .ok (.putfield 29, 3) := by decide +kernel
theorem de_Tp_append_20 : decode cd_Tp_append 20 = .ok (.aload_n 0, 1) := by decide +kernel
theorem de_Tp_append_21 : decode cd_Tp_append 21 = .ok (.getfield 29, 3) := by decide +kernel
theorem de_Tp_append_24 : decode cd_Tp_append 24 = .ok (.iconst 1, 1) := by decide +kernel
theorem de_Tp_append_25 : decode cd_Tp_append 25 = .ok (.isub, 1) := by decide +kernel
theorem de_Tp_append_26 : decode cd_Tp_append 26 = .ok (.ireturn, 1) := by decide +kernel
def jb_Tp_append_0 (N : Nat) (M : mv_M) (v0 : Nat) (v1 : Option Nat) : Option (Int32 × mv_M) :=
  Option.bind (mj_getR M v0 7 0) fun x1 =>
  Option.bind (mj_getI M v0 7 1) fun x5 =>
  Option.bind x1 fun a9 =>
  Option.bind (mj_rst M a9 3 2 x5 v1) fun Mm9 =>
  Option.bind (mj_getI Mm9 v0 7 1) fun x12 =>
  Option.bind (mj_put Mm9 v0 7 1 (.int (x12 + 1))) fun Mm17 =>
  Option.bind (mj_getI Mm17 v0 7 1) fun x21 =>
  some ((x21 - 1), Mm17)
def jf_Tp_append (N : Nat) (M : mv_M) (v0 : Nat) (v1 : Option Nat) : Option (Int32 × mv_M) := jb_Tp_append_0 N M v0 v1
set_option maxHeartbeats 4000000 in
set_option maxRecDepth 100000 in
theorem tb_Tp_append_0 (l : Launch) (D : va_G) (E : Nat → ClassId) (B : Nat) (sa : (Nat → Nat) × Nat × (Nat → Int32)) (M0 M1 : mv_M) (r : Int32) (N : Nat) (M : mv_M) (v0 : Nat) (v1 : Option Nat) (hJ : jb_Tp_append_0 N M v0 v1 = some (r, M1)) : mv_G (xg l D E B sa) kd_Tp_append M0 M1 (some (.int r)) M 0 [(0, va_rf (some v0)), (1, va_rf v1)] [] := by
  unfold jb_Tp_append_0 at hJ
  refine mv_aload_n (pc := 0) (i := 0) de_Tp_append_0 rfl 0 rfl ?_
  refine mv_getR (pc := 1) (f := 0) (kc_7 l D E B sa) (Nat.le_of_ble_eq_true rfl) wt_1_45 de_Tp_append_1 hJ (fun x1 e1 h1 => ?_)
  refine mv_aload_n (pc := 4) (i := 0) de_Tp_append_4 rfl 0 rfl ?_
  refine mv_getI (pc := 5) (f := 1) (kc_7 l D E B sa) (Nat.le_of_ble_eq_true rfl) wt_1_46 de_Tp_append_5 h1 (fun x5 e5 h5 => ?_)
  refine mv_aload_n (pc := 8) (i := 1) de_Tp_append_8 rfl 1 rfl ?_
  obtain ⟨a9, ha, h9a⟩ := mj_bindE h5
  subst ha
  refine mv_aast (pc := 9) (t := 3) (ci := 2) rfl (kc_2 l D E B sa).1 de_Tp_append_9 h9a (fun Mm9 e9 h9 => ?_)
  refine mv_aload_n (pc := 10) (i := 0) de_Tp_append_10 rfl 0 rfl ?_
  refine mv_dup (pc := 11) de_Tp_append_11 rfl ?_
  refine mv_getI (pc := 12) (f := 1) (kc_7 l D E B sa) (Nat.le_of_ble_eq_true rfl) wt_1_46 de_Tp_append_12 h9 (fun x12 e12 h12 => ?_)
  refine mv_iconst (pc := 15) (v := 1) de_Tp_append_15 (by decide) ?_
  refine mv_iadd (pc := 16) de_Tp_append_16 ?_
  refine mv_put (pc := 17) (f := 1) (kc_7 l D E B sa) (Nat.le_of_ble_eq_true rfl) wt_1_46 rfl rfl rfl de_Tp_append_17 h12 (fun Mm17 e17 h17 => ?_)
  refine mv_aload_n (pc := 20) (i := 0) de_Tp_append_20 rfl 0 rfl ?_
  refine mv_getI (pc := 21) (f := 1) (kc_7 l D E B sa) (Nat.le_of_ble_eq_true rfl) wt_1_46 de_Tp_append_21 h17 (fun x21 e21 h21 => ?_)
  refine mv_iconst (pc := 24) (v := 1) de_Tp_append_24 (by decide) ?_
  refine mv_isub (pc := 25) de_Tp_append_25 ?_
  exact mv_iret (pc := 26) rfl de_Tp_append_26 h21
theorem cm_Tp_append (l : Launch) (D : va_G) (E : Nat → ClassId) (B : Nat) (sa : (Nat → Nat) × Nat × (Nat → Int32)) (N : Nat) (M : mv_M) (v0 : Nat) (v1 : Option Nat) (r : Int32) (M1 : mv_M) (hJ : jf_Tp_append N M v0 v1 = some (r, M1)) : mv_Met (xg l D E B sa) yn_Tp_append cd_Tp_append 2 (some .int) 0 0 [va_rf (some v0), va_rf v1] M (some (.int r)) M1 := by
  cases v1 <;> exact mv_enter (by decide) (Nat.le_of_ble_eq_true rfl) (mv_sub [0, 1] rfl (tb_Tp_append_0 l D E B sa M M1 r N M _ _ hJ))
/-! ===== PlainLearner$Tape.addLeaf(LPlainLearner$Shape;)I ===== -/
abbrev kd_Tp_addLeaf : mv_Kd := (cd_Tp_addLeaf, 2, "PlainLearner$Tape", "addLeaf", (some .int), 2, 45)
theorem de_Tp_addLeaf_0 : decode cd_Tp_addLeaf 0 = .ok (.aload_n 1, 1) := by decide +kernel
theorem de_Tp_addLeaf_1 : decode cd_Tp_addLeaf 1 = .ok (.ifnonnull 5, 3) := by decide +kernel
theorem de_Tp_addLeaf_4 : decode cd_Tp_addLeaf 4 = .ok (.iconst (-1), 1) := by decide +kernel
theorem de_Tp_addLeaf_5 : decode cd_Tp_addLeaf 5 = .ok (.ireturn, 1) := by decide +kernel
theorem de_Tp_addLeaf_6 : decode cd_Tp_addLeaf 6 = .ok (.aload_n 0, 1) := by decide +kernel
theorem de_Tp_addLeaf_7 : decode cd_Tp_addLeaf 7 = .ok (.aload_n 1, 1) := by decide +kernel
theorem de_Tp_addLeaf_8 : decode cd_Tp_addLeaf 8 = .ok (.invokevirtual 41, 3) := by decide +kernel
theorem de_Tp_addLeaf_11 : decode cd_Tp_addLeaf 11 = .ok (.ifCond .eq 18, 3) := by decide +kernel
theorem de_Tp_addLeaf_14 : decode cd_Tp_addLeaf 14 = .ok (.aload_n 0, 1) := by decide +kernel
theorem de_Tp_addLeaf_15 : decode cd_Tp_addLeaf 15 = .ok (.new 11, 3) := by decide +kernel
theorem de_Tp_addLeaf_18 : decode cd_Tp_addLeaf 18 = .ok (.dup, 1) := by decide +kernel
theorem de_Tp_addLeaf_19 : decode cd_Tp_addLeaf 19 = .ok (.aload_n 1, 1) := by decide +kernel
theorem de_Tp_addLeaf_20 : decode cd_Tp_addLeaf 20 = .ok (.invokespecial 45, 3) := by decide +kernel
theorem de_Tp_addLeaf_23 : decode cd_Tp_addLeaf 23 = .ok (.invokevirtual 48, 3) := by decide +kernel
theorem de_Tp_addLeaf_26 : decode cd_Tp_addLeaf 26 = .ok (.goto 5, 3) := by decide +kernel
theorem de_Tp_addLeaf_29 : decode cd_Tp_addLeaf 29 = .ok (.bipush (-3), 2) := by decide +kernel
theorem de_Tp_addLeaf_31 : decode cd_Tp_addLeaf 31 = .ok (.ireturn, 1) := by decide +kernel
def jb_Tp_addLeaf_31 (N : Nat) (M : mv_M) (s0 : Int32) : Option (Int32 × mv_M) :=
  some (s0, M)
def jb_Tp_addLeaf_0 (N : Nat) (M : mv_M) (v0 : Nat) (v1 : Option Nat) : Option (Int32 × mv_M) :=
  mj_opt v1 (some ((-1), M)) fun a1 =>
  mj_ob M v0 7 <|
  mj_call (jf_Tp_hasRoom N M v0 (some a1)) fun r8 Mm8 =>
  if r8 = 0 then (jb_Tp_addLeaf_31 N Mm8 (-3)) else
  mj_nw Mm8 2 13 [.null, .int 0, .int 0, .int 0, .null, .null, .null, .null, .int 0, .null, .null, .int 0, .long 0] fun q15 Mm15 =>
  mj_call (jf_No_init0 N Mm15 q15 (some a1)) fun r20 Mm20 =>
  mj_ob Mm20 v0 7 <|
  mj_call (jf_Tp_append N Mm20 v0 (some q15)) fun r23 Mm23 =>
  jb_Tp_addLeaf_31 N Mm23 r23
def jf_Tp_addLeaf (N : Nat) (M : mv_M) (v0 : Nat) (v1 : Option Nat) : Option (Int32 × mv_M) := jb_Tp_addLeaf_0 N M v0 v1
set_option maxHeartbeats 4000000 in
set_option maxRecDepth 100000 in
theorem tb_Tp_addLeaf_31 (l : Launch) (D : va_G) (E : Nat → ClassId) (B : Nat) (sa : (Nat → Nat) × Nat × (Nat → Int32)) (M0 M1 : mv_M) (r : Int32) (N : Nat) (M : mv_M) (s0 : Int32) (hJ : jb_Tp_addLeaf_31 N M s0 = some (r, M1)) : mv_G (xg l D E B sa) kd_Tp_addLeaf M0 M1 (some (.int r)) M 31 [] [.int s0] := by
  unfold jb_Tp_addLeaf_31 at hJ
  exact mv_iret (pc := 31) rfl de_Tp_addLeaf_31 hJ
set_option maxHeartbeats 4000000 in
set_option maxRecDepth 100000 in
theorem tb_Tp_addLeaf_0 (l : Launch) (D : va_G) (E : Nat → ClassId) (B : Nat) (sa : (Nat → Nat) × Nat × (Nat → Int32)) (M0 M1 : mv_M) (r : Int32) (N : Nat) (M : mv_M) (v0 : Nat) (v1 : Option Nat) (hJ : jb_Tp_addLeaf_0 N M v0 v1 = some (r, M1)) : mv_G (xg l D E B sa) kd_Tp_addLeaf M0 M1 (some (.int r)) M 0 [(0, va_rf (some v0)), (1, va_rf v1)] [] := by
  unfold jb_Tp_addLeaf_0 at hJ
  refine mv_aload_n (pc := 0) (i := 1) de_Tp_addLeaf_0 rfl 1 rfl ?_
  refine mv_ifnonnull (pc := 1) (tgt := 6) de_Tp_addLeaf_1 (by decide) hJ (fun ha h1 => ?_) (fun a1 ha h1 => ?_)
  · subst ha
    refine mv_iconst (pc := 4) (v := (-1)) de_Tp_addLeaf_4 (by decide) ?_
    exact mv_iret (pc := 5) rfl de_Tp_addLeaf_5 h1
  · subst ha
    refine mv_aload_n (pc := 6) (i := 0) de_Tp_addLeaf_6 rfl 0 rfl ?_
    refine mv_aload_n (pc := 7) (i := 1) de_Tp_addLeaf_7 rfl 1 rfl ?_
    obtain ⟨hi8, h8o⟩ := mj_obE h1
    obtain ⟨r8, Mm8, hz8, h8⟩ := mj_callE h8o
    refine mv_callV (pc := 8) (n := 1) (av := [va_rf (some a1)]) (rest := []) de_Tp_addLeaf_8 (kc_7 l D E B sa) hi8 (cm_Tp_hasRoom l D E B sa N M v0 (some a1) _ _ hz8) wt_1_208 wt_1_210 wp_0 wt_1_2 wt_1_211 ⟨by decide, by decide, by decide +kernel⟩ rfl ⟨Nat.le_of_ble_eq_true rfl, Nat.le_of_ble_eq_true rfl⟩ (Nat.le_of_ble_eq_true rfl) rfl ?_
    refine mv_if_eq (pc := 11) (tgt := 29) de_Tp_addLeaf_11 (by decide) h8 (fun hc11 h11 => ?_) (fun hc11 h11 => ?_)
    · refine mv_bipush (pc := 29) (v := (-3)) de_Tp_addLeaf_29 (by decide) ?_
      exact mv_sub [] rfl (tb_Tp_addLeaf_31 l D E B sa M0 M1 r N Mm8 (-3) h11)
    · refine mv_aload_n (pc := 14) (i := 0) de_Tp_addLeaf_14 rfl 0 rfl ?_
      refine mv_nw (pc := 15) (kc_2 l D E B sa) wt_1_31 wt_1_212 wt_1_10 (kn_2) de_Tp_addLeaf_15 h11 (fun q15 Mm15 eq15 eM15 h15 => ?_)
      refine mv_dup (pc := 18) de_Tp_addLeaf_18 rfl ?_
      refine mv_aload_n (pc := 19) (i := 1) de_Tp_addLeaf_19 rfl 1 rfl ?_
      obtain ⟨r20, Mm20, hz20, h20⟩ := mj_callE h15
      refine mv_callI (pc := 20) (n := 1) (av := [va_rf (some a1)]) (rest := [va_rf (some q15), va_rf (some v0)]) de_Tp_addLeaf_20 (cm_No_init0 l D E B sa N Mm15 q15 (some a1) _ _ hz20) wt_1_213 wt_1_214 wt_1_10 wt_1_215 rfl ⟨by decide, by decide, by decide +kernel⟩ rfl ⟨Nat.le_of_ble_eq_true rfl, Nat.le_of_ble_eq_true rfl⟩ (Nat.le_of_ble_eq_true rfl) rfl ?_
      obtain ⟨hi23, h23o⟩ := mj_obE h20
      obtain ⟨r23, Mm23, hz23, h23⟩ := mj_callE h23o
      refine mv_callV (pc := 23) (n := 1) (av := [va_rf (some q15)]) (rest := []) de_Tp_addLeaf_23 (kc_7 l D E B sa) hi23 (cm_Tp_append l D E B sa N Mm20 v0 (some q15) _ _ hz23) wt_2_28 wt_2_30 wp_1 wt_1_2 wt_2_31 ⟨by decide, by decide, by decide +kernel⟩ rfl ⟨Nat.le_of_ble_eq_true rfl, Nat.le_of_ble_eq_true rfl⟩ (Nat.le_of_ble_eq_true rfl) rfl ?_
      refine mv_goto (pc := 26) (tgt := 31) de_Tp_addLeaf_26 (by decide) ?_
      exact mv_sub [] rfl (tb_Tp_addLeaf_31 l D E B sa M0 M1 r N Mm23 r23 h23)
theorem cm_Tp_addLeaf (l : Launch) (D : va_G) (E : Nat → ClassId) (B : Nat) (sa : (Nat → Nat) × Nat × (Nat → Int32)) (N : Nat) (M : mv_M) (v0 : Nat) (v1 : Option Nat) (r : Int32) (M1 : mv_M) (hJ : jf_Tp_addLeaf N M v0 v1 = some (r, M1)) : mv_Met (xg l D E B sa) yn_Tp_addLeaf cd_Tp_addLeaf 2 (some .int) 2 45 [va_rf (some v0), va_rf v1] M (some (.int r)) M1 := by
  cases v1 <;> exact mv_enter (by decide) (Nat.le_of_ble_eq_true rfl) (mv_sub [0, 1] rfl (tb_Tp_addLeaf_0 l D E B sa M M1 r N M _ _ hJ))
/-! ===== PlainLearner.leaf(IIII)I ===== -/
abbrev kd_PL_leaf : mv_Kd := (cd_PL_leaf, 5, "PlainLearner", "leaf", (some .int), 3, 67)
theorem de_PL_leaf_0 : decode cd_PL_leaf 0 = .ok (.aload_n 0, 1) := by decide +kernel
theorem de_PL_leaf_1 : decode cd_PL_leaf 1 = .ok (.getfield 10, 3) := by decide +kernel
theorem de_PL_leaf_4 : decode cd_PL_leaf 4 = .ok (.iload_n 1, 1) := by decide +kernel
theorem de_PL_leaf_5 : decode cd_PL_leaf 5 = .ok (.iload_n 2, 1) := by decide +kernel
theorem de_PL_leaf_6 : decode cd_PL_leaf 6 = .ok (.iload_n 3, 1) := by decide +kernel
theorem de_PL_leaf_7 : decode cd_PL_leaf 7 = .ok (.iload 4, 2) := by decide +kernel
theorem de_PL_leaf_9 : decode cd_PL_leaf 9 = .ok (.invokestatic 44, 3) := by decide +kernel
theorem de_PL_leaf_12 : decode cd_PL_leaf 12 = .ok (.invokevirtual 50, 3) := by decide +kernel
theorem de_PL_leaf_15 : decode cd_PL_leaf 15 = .ok (.ireturn, 1) := by decide +kernel
def jb_PL_leaf_0 (N : Nat) (M : mv_M) (v0 : Nat) (v1 : Int32) (v2 : Int32) (v3 : Int32) (v4 : Int32) : Option (Int32 × mv_M) :=
  Option.bind (mj_getR M v0 0 0) fun x1 =>
  mj_call (jf_Sh_told N M v1 v2 v3 v4) fun r9 Mm9 =>
  Option.bind x1 fun a12 =>
  mj_ob Mm9 a12 7 <|
  mj_call (jf_Tp_addLeaf N Mm9 a12 r9) fun r12 Mm12 =>
  some (r12, Mm12)
def jf_PL_leaf (N : Nat) (M : mv_M) (v0 : Nat) (v1 : Int32) (v2 : Int32) (v3 : Int32) (v4 : Int32) : Option (Int32 × mv_M) := jb_PL_leaf_0 N M v0 v1 v2 v3 v4
set_option maxHeartbeats 4000000 in
set_option maxRecDepth 100000 in
theorem tb_PL_leaf_0 (l : Launch) (D : va_G) (E : Nat → ClassId) (B : Nat) (sa : (Nat → Nat) × Nat × (Nat → Int32)) (M0 M1 : mv_M) (r : Int32) (N : Nat) (M : mv_M) (v0 : Nat) (v1 : Int32) (v2 : Int32) (v3 : Int32) (v4 : Int32) (hJ : jb_PL_leaf_0 N M v0 v1 v2 v3 v4 = some (r, M1)) : mv_G (xg l D E B sa) kd_PL_leaf M0 M1 (some (.int r)) M 0 [(0, va_rf (some v0)), (1, .int v1), (2, .int v2), (3, .int v3), (4, .int v4)] [] := by
  unfold jb_PL_leaf_0 at hJ
  refine mv_aload_n (pc := 0) (i := 0) de_PL_leaf_0 rfl 0 rfl ?_
  refine mv_getR (pc := 1) (f := 0) (kc_0 l D E B sa) (Nat.le_of_ble_eq_true rfl) wt_1_146 de_PL_leaf_1 hJ (fun x1 e1 h1 => ?_)
  refine mv_iload_n (pc := 4) (i := 1) de_PL_leaf_4 rfl 1 rfl ?_
  refine mv_iload_n (pc := 5) (i := 2) de_PL_leaf_5 rfl 2 rfl ?_
  refine mv_iload_n (pc := 6) (i := 3) de_PL_leaf_6 rfl 3 rfl ?_
  refine mv_iload (pc := 7) de_PL_leaf_7 4 rfl ?_
  obtain ⟨r9, Mm9, hz9, h9⟩ := mj_callE h1
  refine mv_callS (pc := 9) (n := 4) (av := [.int v1, .int v2, .int v3, .int v4]) (rest := [va_rf x1]) de_PL_leaf_9 (cm_Sh_told l D E B sa N M v1 v2 v3 v4 _ _ hz9) wt_1_166 wt_1_167 wt_1_9 wt_1_168 ⟨by decide, by decide, by decide +kernel⟩ rfl ⟨Nat.le_of_ble_eq_true rfl, Nat.le_of_ble_eq_true rfl⟩ (by simp [mv_cat, mv_cI, mv_cJ]) rfl ?_
  obtain ⟨a12, ha, h12a⟩ := mj_bindE h9
  subst ha
  obtain ⟨hi12, h12o⟩ := mj_obE h12a
  obtain ⟨r12, Mm12, hz12, h12⟩ := mj_callE h12o
  refine mv_callV (pc := 12) (n := 1) (av := [va_rf r9]) (rest := []) de_PL_leaf_12 (kc_7 l D E B sa) hi12 (cm_Tp_addLeaf l D E B sa N Mm9 a12 r9 _ _ hz12) wt_1_204 wt_1_205 wt_1_206 wt_1_2 wt_1_207 ⟨by decide, by decide, by decide +kernel⟩ rfl ⟨Nat.le_of_ble_eq_true rfl, Nat.le_of_ble_eq_true rfl⟩ (Nat.le_of_ble_eq_true rfl) rfl ?_
  exact mv_iret (pc := 15) rfl de_PL_leaf_15 h12
theorem cm_PL_leaf (l : Launch) (D : va_G) (E : Nat → ClassId) (B : Nat) (sa : (Nat → Nat) × Nat × (Nat → Int32)) (N : Nat) (M : mv_M) (v0 : Nat) (v1 : Int32) (v2 : Int32) (v3 : Int32) (v4 : Int32) (r : Int32) (M1 : mv_M) (hJ : jf_PL_leaf N M v0 v1 v2 v3 v4 = some (r, M1)) : mv_Met (xg l D E B sa) yn_PL_leaf cd_PL_leaf 5 (some .int) 3 67 [va_rf (some v0), .int v1, .int v2, .int v3, .int v4] M (some (.int r)) M1 :=
  mv_enter (by decide) (Nat.le_of_ble_eq_true rfl) (mv_sub (lv := [(0, va_rf (some v0)), (1, .int v1), (2, .int v2), (3, .int v3), (4, .int v4)]) [0, 1, 2, 3, 4] rfl (tb_PL_leaf_0 l D E B sa M M1 r N M v0 v1 v2 v3 v4 hJ))
/-! ===== PlainLearner$Tape.find(I)LPlainLearner$Node; ===== -/
abbrev kd_Tp_find : mv_Kd := (cd_Tp_find, 2, "PlainLearner$Tape", "find", (some (.object "PlainLearner$Node")), 0, 0)
theorem de_Tp_find_0 : decode cd_Tp_find 0 = .ok (.iload_n 1, 1) := by decide +kernel
theorem de_Tp_find_1 : decode cd_Tp_find 1 = .ok (.ifCond .lt 11, 3) := by decide +kernel
theorem de_Tp_find_4 : decode cd_Tp_find 4 = .ok (.iload_n 1, 1) := by decide +kernel
theorem de_Tp_find_5 : decode cd_Tp_find 5 = .ok (.aload_n 0, 1) := by decide +kernel
theorem de_Tp_find_6 : decode cd_Tp_find 6 = .ok (.getfield 29, 3) := by decide +kernel
theorem de_Tp_find_9 : decode cd_Tp_find 9 = .ok (.if_icmp .lt 7, 3) := by decide +kernel
theorem de_Tp_find_12 : decode cd_Tp_find 12 = .ok (.aconst_null, 1) := by decide +kernel
theorem de_Tp_find_13 : decode cd_Tp_find 13 = .ok (.goto 9, 3) := by decide +kernel
theorem de_Tp_find_16 : decode cd_Tp_find 16 = .ok (.aload_n 0, 1) := by decide +kernel
theorem de_Tp_find_17 : decode cd_Tp_find 17 = .ok (.getfield 13, 3) := by decide +kernel
theorem de_Tp_find_20 : decode cd_Tp_find 20 = .ok (.iload_n 1, 1) := by decide +kernel
theorem de_Tp_find_21 : decode cd_Tp_find 21 = .ok (.aaload, 1) := by decide +kernel
theorem de_Tp_find_22 : decode cd_Tp_find 22 = .ok (.areturn, 1) := by decide +kernel
def jb_Tp_find_22 (N : Nat) (M : mv_M) (s0 : Option Nat) : Option (Option Nat × mv_M) :=
  some (s0, M)
def jb_Tp_find_12 (N : Nat) (M : mv_M) : Option (Option Nat × mv_M) :=
  jb_Tp_find_22 N M none
def jb_Tp_find_0 (N : Nat) (M : mv_M) (v0 : Nat) (v1 : Int32) : Option (Option Nat × mv_M) :=
  if v1 < 0 then (jb_Tp_find_12 N M) else
  Option.bind (mj_getI M v0 7 1) fun x6 =>
  if v1 < x6 then (Option.bind (mj_getR M v0 7 0) fun x17 =>
  Option.bind x17 fun a21 =>
  Option.bind (mj_rld M a21 3 v1) fun x21 =>
  jb_Tp_find_22 N M x21) else
  jb_Tp_find_12 N M
def jf_Tp_find (N : Nat) (M : mv_M) (v0 : Nat) (v1 : Int32) : Option (Option Nat × mv_M) := jb_Tp_find_0 N M v0 v1
set_option maxHeartbeats 4000000 in
set_option maxRecDepth 100000 in
theorem tb_Tp_find_22 (l : Launch) (D : va_G) (E : Nat → ClassId) (B : Nat) (sa : (Nat → Nat) × Nat × (Nat → Int32)) (M0 M1 : mv_M) (r : Option Nat) (N : Nat) (M : mv_M) (s0 : Option Nat) (hJ : jb_Tp_find_22 N M s0 = some (r, M1)) : mv_G (xg l D E B sa) kd_Tp_find M0 M1 (some (va_rf r)) M 22 [] [va_rf s0] := by
  unfold jb_Tp_find_22 at hJ
  exact mv_aret (pc := 22) rfl (Or.inl ⟨_, rfl⟩) de_Tp_find_22 hJ
set_option maxHeartbeats 4000000 in
set_option maxRecDepth 100000 in
theorem tb_Tp_find_12 (l : Launch) (D : va_G) (E : Nat → ClassId) (B : Nat) (sa : (Nat → Nat) × Nat × (Nat → Int32)) (M0 M1 : mv_M) (r : Option Nat) (N : Nat) (M : mv_M) (hJ : jb_Tp_find_12 N M = some (r, M1)) : mv_G (xg l D E B sa) kd_Tp_find M0 M1 (some (va_rf r)) M 12 [] [] := by
  unfold jb_Tp_find_12 at hJ
  refine mv_null (pc := 12) de_Tp_find_12 ?_
  refine mv_goto (pc := 13) (tgt := 22) de_Tp_find_13 (by decide) ?_
  exact mv_sub [] rfl (tb_Tp_find_22 l D E B sa M0 M1 r N M none hJ)
set_option maxHeartbeats 4000000 in
set_option maxRecDepth 100000 in
theorem tb_Tp_find_0 (l : Launch) (D : va_G) (E : Nat → ClassId) (B : Nat) (sa : (Nat → Nat) × Nat × (Nat → Int32)) (M0 M1 : mv_M) (r : Option Nat) (N : Nat) (M : mv_M) (v0 : Nat) (v1 : Int32) (hJ : jb_Tp_find_0 N M v0 v1 = some (r, M1)) : mv_G (xg l D E B sa) kd_Tp_find M0 M1 (some (va_rf r)) M 0 [(0, va_rf (some v0)), (1, .int v1)] [] := by
  unfold jb_Tp_find_0 at hJ
  refine mv_iload_n (pc := 0) (i := 1) de_Tp_find_0 rfl 1 rfl ?_
  refine mv_if_lt (pc := 1) (tgt := 12) de_Tp_find_1 (by decide) hJ (fun hc1 h1 => ?_) (fun hc1 h1 => ?_)
  · exact mv_sub [] rfl (tb_Tp_find_12 l D E B sa M0 M1 r N M h1)
  · refine mv_iload_n (pc := 4) (i := 1) de_Tp_find_4 rfl 1 rfl ?_
    refine mv_aload_n (pc := 5) (i := 0) de_Tp_find_5 rfl 0 rfl ?_
    refine mv_getI (pc := 6) (f := 1) (kc_7 l D E B sa) (Nat.le_of_ble_eq_true rfl) wt_1_46 de_Tp_find_6 h1 (fun x6 e6 h6 => ?_)
    refine mv_icmp_lt (pc := 9) (tgt := 16) de_Tp_find_9 (by decide) h6 (fun hc9 h9 => ?_) (fun hc9 h9 => ?_)
    · refine mv_aload_n (pc := 16) (i := 0) de_Tp_find_16 rfl 0 rfl ?_
      refine mv_getR (pc := 17) (f := 0) (kc_7 l D E B sa) (Nat.le_of_ble_eq_true rfl) wt_1_45 de_Tp_find_17 h9 (fun x17 e17 h17 => ?_)
      refine mv_iload_n (pc := 20) (i := 1) de_Tp_find_20 rfl 1 rfl ?_
      obtain ⟨a21, ha, h21a⟩ := mj_bindE h17
      subst ha
      refine mv_aald (pc := 21) (t := 3) rfl de_Tp_find_21 h21a (fun x21 e21 h21 => ?_)
      exact mv_sub [] rfl (tb_Tp_find_22 l D E B sa M0 M1 r N M x21 h21)
    · exact mv_sub [] rfl (tb_Tp_find_12 l D E B sa M0 M1 r N M h9)
theorem cm_Tp_find (l : Launch) (D : va_G) (E : Nat → ClassId) (B : Nat) (sa : (Nat → Nat) × Nat × (Nat → Int32)) (N : Nat) (M : mv_M) (v0 : Nat) (v1 : Int32) (r : Option Nat) (M1 : mv_M) (hJ : jf_Tp_find N M v0 v1 = some (r, M1)) : mv_Met (xg l D E B sa) yn_Tp_find cd_Tp_find 2 (some (.object "PlainLearner$Node")) 0 0 [va_rf (some v0), .int v1] M (some (va_rf r)) M1 :=
  mv_enter (by decide) (Nat.le_of_ble_eq_true rfl) (mv_sub (lv := [(0, va_rf (some v0)), (1, .int v1)]) [0, 1] rfl (tb_Tp_find_0 l D E B sa M M1 r N M v0 v1 hJ))
/-! ===== PlainLearner$Node.isLeaf()Z ===== -/
abbrev kd_No_isLeaf : mv_Kd := (cd_No_isLeaf, 1, "PlainLearner$Node", "isLeaf", (some .boolean), 0, 0)
theorem de_No_isLeaf_0 : decode cd_No_isLeaf 0 = .ok (.aload_n 0, 1) := by decide +kernel
theorem de_No_isLeaf_1 : decode cd_No_isLeaf 1 = .ok (.getfield 25, 3) := by decide +kernel
theorem de_No_isLeaf_4 : decode cd_No_isLeaf 4 = .ok (.ifnonnull 7, 3) := by decide +kernel
theorem de_No_isLeaf_7 : decode cd_No_isLeaf 7 = .ok (.iconst 1, 1) := by decide +kernel
theorem de_No_isLeaf_8 : decode cd_No_isLeaf 8 = .ok (.goto 4, 3) := by decide +kernel
theorem de_No_isLeaf_11 : decode cd_No_isLeaf 11 = .ok (.iconst 0, 1) := by decide +kernel
theorem de_No_isLeaf_12 : decode cd_No_isLeaf 12 = .ok (.ireturn, 1) := by decide +kernel
def jb_No_isLeaf_12 (N : Nat) (M : mv_M) (s0 : Int32) : Option (Int32 × mv_M) :=
  if s0 = 0 ∨ s0 = 1 then some (s0, M) else none
def jb_No_isLeaf_0 (N : Nat) (M : mv_M) (v0 : Nat) : Option (Int32 × mv_M) :=
  Option.bind (mj_getR M v0 2 4) fun x1 =>
  mj_opt x1 (jb_No_isLeaf_12 N M 1) fun a4 =>
  jb_No_isLeaf_12 N M 0
def jf_No_isLeaf (N : Nat) (M : mv_M) (v0 : Nat) : Option (Int32 × mv_M) := jb_No_isLeaf_0 N M v0
set_option maxHeartbeats 4000000 in
set_option maxRecDepth 100000 in
theorem tb_No_isLeaf_12 (l : Launch) (D : va_G) (E : Nat → ClassId) (B : Nat) (sa : (Nat → Nat) × Nat × (Nat → Int32)) (M0 M1 : mv_M) (r : Int32) (N : Nat) (M : mv_M) (s0 : Int32) (hJ : jb_No_isLeaf_12 N M s0 = some (r, M1)) : mv_G (xg l D E B sa) kd_No_isLeaf M0 M1 (some (.int r)) M 12 [] [.int s0] := by
  unfold jb_No_isLeaf_12 at hJ
  exact mv_zret (pc := 12) rfl de_No_isLeaf_12 hJ
set_option maxHeartbeats 4000000 in
set_option maxRecDepth 100000 in
theorem tb_No_isLeaf_0 (l : Launch) (D : va_G) (E : Nat → ClassId) (B : Nat) (sa : (Nat → Nat) × Nat × (Nat → Int32)) (M0 M1 : mv_M) (r : Int32) (N : Nat) (M : mv_M) (v0 : Nat) (hJ : jb_No_isLeaf_0 N M v0 = some (r, M1)) : mv_G (xg l D E B sa) kd_No_isLeaf M0 M1 (some (.int r)) M 0 [(0, va_rf (some v0))] [] := by
  unfold jb_No_isLeaf_0 at hJ
  refine mv_aload_n (pc := 0) (i := 0) de_No_isLeaf_0 rfl 0 rfl ?_
  refine mv_getR (pc := 1) (f := 4) (kc_2 l D E B sa) (Nat.le_of_ble_eq_true rfl) wt_1_225 de_No_isLeaf_1 hJ (fun x1 e1 h1 => ?_)
  refine mv_ifnonnull (pc := 4) (tgt := 11) de_No_isLeaf_4 (by decide) h1 (fun ha h4 => ?_) (fun a4 ha h4 => ?_)
  · subst ha
    refine mv_iconst (pc := 7) (v := 1) de_No_isLeaf_7 (by decide) ?_
    refine mv_goto (pc := 8) (tgt := 12) de_No_isLeaf_8 (by decide) ?_
    exact mv_sub [] rfl (tb_No_isLeaf_12 l D E B sa M0 M1 r N M 1 h4)
  · subst ha
    refine mv_iconst (pc := 11) (v := 0) de_No_isLeaf_11 (by decide) ?_
    exact mv_sub [] rfl (tb_No_isLeaf_12 l D E B sa M0 M1 r N M 0 h4)
theorem cm_No_isLeaf (l : Launch) (D : va_G) (E : Nat → ClassId) (B : Nat) (sa : (Nat → Nat) × Nat × (Nat → Int32)) (N : Nat) (M : mv_M) (v0 : Nat) (r : Int32) (M1 : mv_M) (hJ : jf_No_isLeaf N M v0 = some (r, M1)) : mv_Met (xg l D E B sa) yn_No_isLeaf cd_No_isLeaf 1 (some .boolean) 0 0 [va_rf (some v0)] M (some (.int r)) M1 :=
  mv_enter (by decide) (Nat.le_of_ble_eq_true rfl) (mv_sub (lv := [(0, va_rf (some v0))]) [0] rfl (tb_No_isLeaf_0 l D E B sa M M1 r N M v0 hJ))
/-! ===== PlainLearner$Tape.findLeaf(I)LPlainLearner$Node; ===== -/
abbrev kd_Tp_findLeaf : mv_Kd := (cd_Tp_findLeaf, 3, "PlainLearner$Tape", "findLeaf", (some (.object "PlainLearner$Node")), 1, 21)
theorem de_Tp_findLeaf_0 : decode cd_Tp_findLeaf 0 = .ok (.aload_n 0, 1) := by decide +kernel
theorem de_Tp_findLeaf_1 : decode cd_Tp_findLeaf 1 = .ok (.iload_n 1, 1) := by decide +kernel
theorem de_Tp_findLeaf_2 : decode cd_Tp_findLeaf 2 = .ok (.invokevirtual 33, 3) := by decide +kernel
theorem de_Tp_findLeaf_5 : decode cd_Tp_findLeaf 5 = .ok (.astore_n 2, 1) := by decide +kernel
theorem de_Tp_findLeaf_6 : decode cd_Tp_findLeaf 6 = .ok (.aload_n 2, 1) := by decide +kernel
theorem de_Tp_findLeaf_7 : decode cd_Tp_findLeaf 7 = .ok (.ifnull 10, 3) := by decide +kernel
theorem de_Tp_findLeaf_10 : decode cd_Tp_findLeaf 10 = .ok (.aload_n 2, 1) := by decide +kernel
theorem de_Tp_findLeaf_11 : decode cd_Tp_findLeaf 11 = .ok (.invokevirtual 37, 3) := by decide +kernel
theorem de_Tp_findLeaf_14 : decode cd_Tp_findLeaf 14 = .ok (.ifCond .ne 7, 3) := by decide +kernel
theorem de_Tp_findLeaf_17 : decode cd_Tp_findLeaf 17 = .ok (.aconst_null, 1) := by decide +kernel
theorem de_Tp_findLeaf_18 : decode cd_Tp_findLeaf 18 = .ok (.goto 4, 3) := by decide +kernel
theorem de_Tp_findLeaf_21 : decode cd_Tp_findLeaf 21 = .ok (.aload_n 2, 1) := by decide +kernel
theorem de_Tp_findLeaf_22 : decode cd_Tp_findLeaf 22 = .ok (.areturn, 1) := by decide +kernel
def jb_Tp_findLeaf_22 (N : Nat) (M : mv_M) (s0 : Option Nat) : Option (Option Nat × mv_M) :=
  some (s0, M)
def jb_Tp_findLeaf_17 (N : Nat) (M : mv_M) : Option (Option Nat × mv_M) :=
  jb_Tp_findLeaf_22 N M none
def jb_Tp_findLeaf_0 (N : Nat) (M : mv_M) (v0 : Nat) (v1 : Int32) : Option (Option Nat × mv_M) :=
  mj_ob M v0 7 <|
  mj_call (jf_Tp_find N M v0 v1) fun r2 Mm2 =>
  mj_opt r2 (jb_Tp_findLeaf_17 N Mm2) fun a7 =>
  mj_ob Mm2 a7 2 <|
  mj_call (jf_No_isLeaf N Mm2 a7) fun r11 Mm11 =>
  if r11 = 0 then (jb_Tp_findLeaf_17 N Mm11) else
  jb_Tp_findLeaf_22 N Mm11 (some a7)
def jf_Tp_findLeaf (N : Nat) (M : mv_M) (v0 : Nat) (v1 : Int32) : Option (Option Nat × mv_M) := jb_Tp_findLeaf_0 N M v0 v1
set_option maxHeartbeats 4000000 in
set_option maxRecDepth 100000 in
theorem tb_Tp_findLeaf_22 (l : Launch) (D : va_G) (E : Nat → ClassId) (B : Nat) (sa : (Nat → Nat) × Nat × (Nat → Int32)) (M0 M1 : mv_M) (r : Option Nat) (N : Nat) (M : mv_M) (s0 : Option Nat) (hJ : jb_Tp_findLeaf_22 N M s0 = some (r, M1)) : mv_G (xg l D E B sa) kd_Tp_findLeaf M0 M1 (some (va_rf r)) M 22 [] [va_rf s0] := by
  unfold jb_Tp_findLeaf_22 at hJ
  exact mv_aret (pc := 22) rfl (Or.inl ⟨_, rfl⟩) de_Tp_findLeaf_22 hJ
set_option maxHeartbeats 4000000 in
set_option maxRecDepth 100000 in
theorem tb_Tp_findLeaf_17 (l : Launch) (D : va_G) (E : Nat → ClassId) (B : Nat) (sa : (Nat → Nat) × Nat × (Nat → Int32)) (M0 M1 : mv_M) (r : Option Nat) (N : Nat) (M : mv_M) (hJ : jb_Tp_findLeaf_17 N M = some (r, M1)) : mv_G (xg l D E B sa) kd_Tp_findLeaf M0 M1 (some (va_rf r)) M 17 [] [] := by
  unfold jb_Tp_findLeaf_17 at hJ
  refine mv_null (pc := 17) de_Tp_findLeaf_17 ?_
  refine mv_goto (pc := 18) (tgt := 22) de_Tp_findLeaf_18 (by decide) ?_
  exact mv_sub [] rfl (tb_Tp_findLeaf_22 l D E B sa M0 M1 r N M none hJ)
set_option maxHeartbeats 4000000 in
set_option maxRecDepth 100000 in
theorem tb_Tp_findLeaf_0 (l : Launch) (D : va_G) (E : Nat → ClassId) (B : Nat) (sa : (Nat → Nat) × Nat × (Nat → Int32)) (M0 M1 : mv_M) (r : Option Nat) (N : Nat) (M : mv_M) (v0 : Nat) (v1 : Int32) (hJ : jb_Tp_findLeaf_0 N M v0 v1 = some (r, M1)) : mv_G (xg l D E B sa) kd_Tp_findLeaf M0 M1 (some (va_rf r)) M 0 [(0, va_rf (some v0)), (1, .int v1)] [] := by
  unfold jb_Tp_findLeaf_0 at hJ
  refine mv_aload_n (pc := 0) (i := 0) de_Tp_findLeaf_0 rfl 0 rfl ?_
  refine mv_iload_n (pc := 1) (i := 1) de_Tp_findLeaf_1 rfl 1 rfl ?_
  obtain ⟨hi2, h2o⟩ := mj_obE hJ
  obtain ⟨r2, Mm2, hz2, h2⟩ := mj_callE h2o
  refine mv_callV (pc := 2) (n := 1) (av := [.int v1]) (rest := []) de_Tp_findLeaf_2 (kc_7 l D E B sa) hi2 (cm_Tp_find l D E B sa N M v0 v1 _ _ hz2) wt_2_45 wt_2_46 wt_2_47 wt_1_2 wt_2_48 ⟨by decide, by decide, by decide +kernel⟩ rfl ⟨Nat.le_of_ble_eq_true rfl, Nat.le_of_ble_eq_true rfl⟩ (Nat.le_of_ble_eq_true rfl) rfl ?_
  refine mv_astore_n (pc := 5) (i := 2) (lv' := [(2, va_rf r2), (0, va_rf (some v0)), (1, .int v1)]) de_Tp_findLeaf_5 rfl (Nat.le_of_ble_eq_true rfl) rfl ?_
  refine mv_aload_n (pc := 6) (i := 2) de_Tp_findLeaf_6 rfl 0 rfl ?_
  refine mv_ifnull (pc := 7) (tgt := 17) de_Tp_findLeaf_7 (by decide) h2 (fun ha h7 => ?_) (fun a7 ha h7 => ?_)
  · subst ha
    exact mv_sub [] rfl (tb_Tp_findLeaf_17 l D E B sa M0 M1 r N Mm2 h7)
  · subst ha
    refine mv_aload_n (pc := 10) (i := 2) de_Tp_findLeaf_10 rfl 0 rfl ?_
    obtain ⟨hi11, h11o⟩ := mj_obE h7
    obtain ⟨r11, Mm11, hz11, h11⟩ := mj_callE h11o
    refine mv_callV (pc := 11) (n := 0) (av := []) (rest := []) de_Tp_findLeaf_11 (kc_2 l D E B sa) hi11 (cm_No_isLeaf l D E B sa N Mm2 a7 _ _ hz11) wt_2_49 wt_2_50 wt_2_51 wt_1_10 wt_2_52 ⟨by decide, by decide, by decide +kernel⟩ rfl ⟨Nat.le_of_ble_eq_true rfl, Nat.le_of_ble_eq_true rfl⟩ (Nat.le_of_ble_eq_true rfl) rfl ?_
    refine mv_if_ne (pc := 14) (tgt := 21) de_Tp_findLeaf_14 (by decide) h11 (fun hc14 h14 => ?_) (fun hc14 h14 => ?_)
    · exact mv_sub [] rfl (tb_Tp_findLeaf_17 l D E B sa M0 M1 r N Mm11 h14)
    · refine mv_aload_n (pc := 21) (i := 2) de_Tp_findLeaf_21 rfl 0 rfl ?_
      exact mv_sub [] rfl (tb_Tp_findLeaf_22 l D E B sa M0 M1 r N Mm11 (some a7) h14)
theorem cm_Tp_findLeaf (l : Launch) (D : va_G) (E : Nat → ClassId) (B : Nat) (sa : (Nat → Nat) × Nat × (Nat → Int32)) (N : Nat) (M : mv_M) (v0 : Nat) (v1 : Int32) (r : Option Nat) (M1 : mv_M) (hJ : jf_Tp_findLeaf N M v0 v1 = some (r, M1)) : mv_Met (xg l D E B sa) yn_Tp_findLeaf cd_Tp_findLeaf 3 (some (.object "PlainLearner$Node")) 1 21 [va_rf (some v0), .int v1] M (some (va_rf r)) M1 :=
  mv_enter (by decide) (Nat.le_of_ble_eq_true rfl) (mv_sub (lv := [(0, va_rf (some v0)), (1, .int v1)]) [0, 1] rfl (tb_Tp_findLeaf_0 l D E B sa M M1 r N M v0 v1 hJ))
