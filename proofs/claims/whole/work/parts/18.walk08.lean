/-! ===== PlainLearner$Tokens.doMerge(I)V ===== -/
abbrev kd_Tk_doMerge : mv_Kd := (cd_Tk_doMerge, 5, "PlainLearner$Tokens", "doMerge", none, 0, 0)
theorem de_Tk_doMerge_0 : decode cd_Tk_doMerge 0 = .ok (.iconst 0, 1) := by decide +kernel
theorem de_Tk_doMerge_1 : decode cd_Tk_doMerge 1 = .ok (.istore_n 2, 1) := by decide +kernel
theorem de_Tk_doMerge_2 : decode cd_Tk_doMerge 2 = .ok (.iconst 0, 1) := by decide +kernel
theorem de_Tk_doMerge_3 : decode cd_Tk_doMerge 3 = .ok (.istore_n 3, 1) := by decide +kernel
theorem de_Tk_doMerge_4 : decode cd_Tk_doMerge 4 = .ok (.iload_n 3, 1) := by decide +kernel
theorem de_Tk_doMerge_5 : decode cd_Tk_doMerge 5 = .ok (.aload_n 0, 1) := by decide +kernel
theorem de_Tk_doMerge_6 : decode cd_Tk_doMerge 6 = .ok (.getfield 31, 3) := by decide +kernel
theorem de_Tk_doMerge_9 : decode cd_Tk_doMerge 9 = .ok (.if_icmp .ge 95, 3) := by decide +kernel
theorem de_Tk_doMerge_12 : decode cd_Tk_doMerge 12 = .ok (.iload_n 3, 1) := by decide +kernel
theorem de_Tk_doMerge_13 : decode cd_Tk_doMerge 13 = .ok (.iconst 1, 1) := by decide +kernel
theorem de_Tk_doMerge_14 : decode cd_Tk_doMerge 14 = .ok (.iadd, 1) := by decide +kernel
theorem de_Tk_doMerge_15 : decode cd_Tk_doMerge 15 = .ok (.aload_n 0, 1) := by decide +kernel
theorem de_Tk_doMerge_16 : decode cd_Tk_doMerge 16 = .ok (.getfield 31, 3) := by decide +kernel
theorem de_Tk_doMerge_19 : decode cd_Tk_doMerge 19 = .ok (.if_icmp .ge 39, 3) := by decide +kernel
theorem de_Tk_doMerge_22 : decode cd_Tk_doMerge 22 = .ok (.aload_n 0, 1) := by decide +kernel
theorem de_Tk_doMerge_23 : decode cd_Tk_doMerge 23 = .ok (.getfield 11, 3) := by decide +kernel
theorem de_Tk_doMerge_26 : decode cd_Tk_doMerge 26 = .ok (.iload_n 3, 1) := by decide +kernel
theorem de_Tk_doMerge_27 : decode cd_Tk_doMerge 27 = .ok (.iaload, 1) := by decide +kernel
theorem de_Tk_doMerge_28 : decode cd_Tk_doMerge 28 = .ok (.aload_n 0, 1) := by decide +kernel
theorem de_Tk_doMerge_29 : decode cd_Tk_doMerge 29 = .ok (.getfield 15, 3) := by decide +kernel
theorem de_Tk_doMerge_32 : decode cd_Tk_doMerge 32 = .ok (.iload_n 1, 1) := by decide +kernel
theorem de_Tk_doMerge_33 : decode cd_Tk_doMerge 33 = .ok (.iaload, 1) := by decide +kernel
theorem de_Tk_doMerge_34 : decode cd_Tk_doMerge 34 = .ok (.if_icmp .ne 24, 3) := by decide +kernel
theorem de_Tk_doMerge_37 : decode cd_Tk_doMerge 37 = .ok (.aload_n 0, 1) := by decide +kernel
theorem de_Tk_doMerge_38 : decode cd_Tk_doMerge 38 = .ok (.getfield 11, 3) := by decide +kernel
theorem de_Tk_doMerge_41 : decode cd_Tk_doMerge 41 = .ok (.iload_n 3, 1) := by decide +kernel
theorem de_Tk_doMerge_42 : decode cd_Tk_doMerge 42 = .ok (.iconst 1, 1) := by decide +kernel
theorem de_Tk_doMerge_43 : decode cd_Tk_doMerge 43 = .ok (.iadd, 1) := by decide +kernel
theorem de_Tk_doMerge_44 : decode cd_Tk_doMerge 44 = .ok (.iaload, 1) := by decide +kernel
theorem de_Tk_doMerge_45 : decode cd_Tk_doMerge 45 = .ok (.aload_n 0, 1) := by decide +kernel
theorem de_Tk_doMerge_46 : decode cd_Tk_doMerge 46 = .ok (.getfield 18, 3) := by decide +kernel
theorem de_Tk_doMerge_49 : decode cd_Tk_doMerge 49 = .ok (.iload_n 1, 1) := by decide +kernel
theorem de_Tk_doMerge_50 : decode cd_Tk_doMerge 50 = .ok (.iaload, 1) := by decide +kernel
theorem de_Tk_doMerge_51 : decode cd_Tk_doMerge 51 = .ok (.if_icmp .ne 7, 3) := by decide +kernel
theorem de_Tk_doMerge_54 : decode cd_Tk_doMerge 54 = .ok (.iconst 1, 1) := by decide +kernel
theorem de_Tk_doMerge_55 : decode cd_Tk_doMerge 55 = .ok (.goto 4, 3) := by decide +kernel
theorem de_Tk_doMerge_58 : decode cd_Tk_doMerge 58 = .ok (.iconst 0, 1) := by decide +kernel
theorem de_Tk_doMerge_59 : decode cd_Tk_doMerge 59 = .ok (.istore 4, 2) := by decide +kernel
theorem de_Tk_doMerge_61 : decode cd_Tk_doMerge 61 = .ok (.aload_n 0, 1) := by decide +kernel
theorem de_Tk_doMerge_62 : decode cd_Tk_doMerge 62 = .ok (.getfield 11, 3) := by decide +kernel
theorem de_Tk_doMerge_65 : decode cd_Tk_doMerge 65 = .ok (.iload_n 2, 1) := by decide +kernel
theorem de_Tk_doMerge_66 : decode cd_Tk_doMerge 66 = .ok (.iload 4, 2) := by decide +kernel
theorem de_Tk_doMerge_68 : decode cd_Tk_doMerge 68 = .ok (.ifCond .eq 10, 3) := by decide +kernel
theorem de_Tk_doMerge_71 : decode cd_Tk_doMerge 71 = .ok (.bipush 26, 2) := by decide +kernel
theorem de_Tk_doMerge_73 : decode cd_Tk_doMerge 73 = .ok (.iload_n 1, 1) := by decide +kernel
theorem de_Tk_doMerge_74 : decode cd_Tk_doMerge 74 = .ok (.iadd, 1) := by decide +kernel
theorem de_Tk_doMerge_75 : decode cd_Tk_doMerge 75 = .ok (.goto 9, 3) := by decide +kernel
theorem de_Tk_doMerge_78 : decode cd_Tk_doMerge 78 = .ok (.aload_n 0, 1) := by decide +kernel
theorem de_Tk_doMerge_79 : decode cd_Tk_doMerge 79 = .ok (.getfield 11, 3) := by decide +kernel
theorem de_Tk_doMerge_82 : decode cd_Tk_doMerge 82 = .ok (.iload_n 3, 1) := by decide +kernel
theorem de_Tk_doMerge_83 : decode cd_Tk_doMerge 83 = .ok (.iaload, 1) := by decide +kernel
theorem de_Tk_doMerge_84 : decode cd_Tk_doMerge 84 = .ok (.iastore, 1) := by decide +kernel
theorem de_Tk_doMerge_85 : decode cd_Tk_doMerge 85 = .ok (.iinc 2 1, 3) := by decide +kernel
theorem de_Tk_doMerge_88 : decode cd_Tk_doMerge 88 = .ok (.iload_n 3, 1) := by decide +kernel
theorem de_Tk_doMerge_89 : decode cd_Tk_doMerge 89 = .ok (.iload 4, 2) := by decide +kernel
theorem de_Tk_doMerge_91 : decode cd_Tk_doMerge 91 = .ok (.ifCond .eq 7, 3) := by decide +kernel
theorem de_Tk_doMerge_94 : decode cd_Tk_doMerge 94 = .ok (.iconst 2, 1) := by decide +kernel
theorem de_Tk_doMerge_95 : decode cd_Tk_doMerge 95 = .ok (.goto 4, 3) := by decide +kernel
theorem de_Tk_doMerge_98 : decode cd_Tk_doMerge 98 = .ok (.iconst 1, 1) := by decide +kernel
theorem de_Tk_doMerge_99 : decode cd_Tk_doMerge 99 = .ok (.iadd, 1) := by decide +kernel
theorem de_Tk_doMerge_100 : decode cd_Tk_doMerge 100 = .ok (.istore_n 3, 1) := by decide +kernel
theorem de_Tk_doMerge_101 : decode cd_Tk_doMerge 101 = .ok (.goto (-97), 3) := by decide +kernel
theorem de_Tk_doMerge_104 : decode cd_Tk_doMerge 104 = .ok (.aload_n 0, 1) := by decide +kernel
theorem de_Tk_doMerge_105 : decode cd_Tk_doMerge 105 = .ok (.iload_n 2, 1) := by decide +kernel
theorem de_Tk_doMerge_106 : decode cd_Tk_doMerge 106 = .ok (.putfield 31, 3) := by decide +kernel
theorem de_Tk_doMerge_109 : decode cd_Tk_doMerge 109 = .ok (.return_, 1) := by decide +kernel
def jb_Tk_doMerge_99 (N : Nat) (k4 : mv_M → Nat → Int32 → Int32 → Int32 → Option (Unit × mv_M)) (M : mv_M) (v0 : Nat) (v1 : Int32) (v2 : Int32) (s0 : Int32) (s1 : Int32) : Option (Unit × mv_M) :=
  k4 M v0 v1 v2 (s0 + s1)
def jb_Tk_doMerge_84 (N : Nat) (k4 : mv_M → Nat → Int32 → Int32 → Int32 → Option (Unit × mv_M)) (M : mv_M) (v0 : Nat) (v1 : Int32) (v2 : Int32) (v3 : Int32) (v4 : Int32) (s0 : Option Nat) (s1 : Int32) (s2 : Int32) : Option (Unit × mv_M) :=
  Option.bind s0 fun a84 =>
  Option.bind (mj_ist M a84 0 s1 s2) fun Mm84 =>
  if v4 = 0 then (jb_Tk_doMerge_99 N k4 Mm84 v0 v1 (v2 + 1) v3 1) else
  jb_Tk_doMerge_99 N k4 Mm84 v0 v1 (v2 + 1) v3 2
def jb_Tk_doMerge_59 (N : Nat) (k4 : mv_M → Nat → Int32 → Int32 → Int32 → Option (Unit × mv_M)) (M : mv_M) (v0 : Nat) (v1 : Int32) (v2 : Int32) (v3 : Int32) (s0 : Int32) : Option (Unit × mv_M) :=
  Option.bind (mj_getR M v0 8 0) fun x62 =>
  if s0 = 0 then (Option.bind (mj_getR M v0 8 0) fun x79 =>
  Option.bind x79 fun a83 =>
  Option.bind (mj_ild M a83 0 v3) fun x83 =>
  jb_Tk_doMerge_84 N k4 M v0 v1 v2 v3 s0 x62 v2 x83) else
  jb_Tk_doMerge_84 N k4 M v0 v1 v2 v3 s0 x62 v2 (26 + v1)
def jb_Tk_doMerge_58 (N : Nat) (k4 : mv_M → Nat → Int32 → Int32 → Int32 → Option (Unit × mv_M)) (M : mv_M) (v0 : Nat) (v1 : Int32) (v2 : Int32) (v3 : Int32) : Option (Unit × mv_M) :=
  jb_Tk_doMerge_59 N k4 M v0 v1 v2 v3 0
def jb_Tk_doMerge_4 (N : Nat) : Nat → mv_M → Nat → Int32 → Int32 → Int32 → Option (Unit × mv_M)
  | 0, _, _, _, _, _ => none
  | n + 1, M, v0, v1, v2, v3 =>
    Option.bind (mj_getI M v0 8 5) fun x6 =>
    if x6 ≤ v3 then (Option.bind (mj_put M v0 8 5 (.int v2)) fun Mm106 =>
    some ((), Mm106)) else
    Option.bind (mj_getI M v0 8 5) fun x16 =>
    if x16 ≤ (v3 + 1) then (jb_Tk_doMerge_58 N (jb_Tk_doMerge_4 N n) M v0 v1 v2 v3) else
    Option.bind (mj_getR M v0 8 0) fun x23 =>
    Option.bind x23 fun a27 =>
    Option.bind (mj_ild M a27 0 v3) fun x27 =>
    Option.bind (mj_getR M v0 8 1) fun x29 =>
    Option.bind x29 fun a33 =>
    Option.bind (mj_ild M a33 0 v1) fun x33 =>
    if x27 = x33 then (Option.bind (mj_getR M v0 8 0) fun x38 =>
    Option.bind x38 fun a44 =>
    Option.bind (mj_ild M a44 0 (v3 + 1)) fun x44 =>
    Option.bind (mj_getR M v0 8 2) fun x46 =>
    Option.bind x46 fun a50 =>
    Option.bind (mj_ild M a50 0 v1) fun x50 =>
    if x44 = x50 then (jb_Tk_doMerge_59 N (jb_Tk_doMerge_4 N n) M v0 v1 v2 v3 1) else
    jb_Tk_doMerge_58 N (jb_Tk_doMerge_4 N n) M v0 v1 v2 v3) else
    jb_Tk_doMerge_58 N (jb_Tk_doMerge_4 N n) M v0 v1 v2 v3
def jb_Tk_doMerge_0 (N : Nat) (M : mv_M) (v0 : Nat) (v1 : Int32) : Option (Unit × mv_M) :=
  jb_Tk_doMerge_4 N N M v0 v1 0 0
def jf_Tk_doMerge (N : Nat) (M : mv_M) (v0 : Nat) (v1 : Int32) : Option (Unit × mv_M) := jb_Tk_doMerge_0 N M v0 v1
set_option maxHeartbeats 4000000 in
set_option maxRecDepth 100000 in
theorem tb_Tk_doMerge_99 (l : Launch) (D : va_G) (E : Nat → ClassId) (B : Nat) (sa : (Nat → Nat) × Nat × (Nat → Int32)) (M0 M1 : mv_M) (r : Unit) (N : Nat) (k4 : mv_M → Nat → Int32 → Int32 → Int32 → Option (Unit × mv_M)) (hk4 : ∀ (M : mv_M) (v0 : Nat) (v1 : Int32) (v2 : Int32) (v3 : Int32), k4 M v0 v1 v2 v3 = some (r, M1) → mv_G (xg l D E B sa) kd_Tk_doMerge M0 M1 none M 4 [(0, va_rf (some v0)), (1, .int v1), (2, .int v2), (3, .int v3)] []) (M : mv_M) (v0 : Nat) (v1 : Int32) (v2 : Int32) (s0 : Int32) (s1 : Int32) (hJ : jb_Tk_doMerge_99 N k4 M v0 v1 v2 s0 s1 = some (r, M1)) : mv_G (xg l D E B sa) kd_Tk_doMerge M0 M1 none M 99 [(0, va_rf (some v0)), (1, .int v1), (2, .int v2)] [.int s1, .int s0] := by
  unfold jb_Tk_doMerge_99 at hJ
  refine mv_iadd (pc := 99) de_Tk_doMerge_99 ?_
  refine mv_istore_n (pc := 100) (i := 3) (lv' := [(3, .int (s0 + s1)), (0, va_rf (some v0)), (1, .int v1), (2, .int v2)]) de_Tk_doMerge_100 rfl (Nat.le_of_ble_eq_true rfl) rfl ?_
  refine mv_goto (pc := 101) (tgt := 4) de_Tk_doMerge_101 (by decide) ?_
  exact mv_sub [1, 2, 3, 0] rfl (hk4 M v0 v1 v2 (s0 + s1) hJ)
set_option maxHeartbeats 4000000 in
set_option maxRecDepth 100000 in
theorem tb_Tk_doMerge_84 (l : Launch) (D : va_G) (E : Nat → ClassId) (B : Nat) (sa : (Nat → Nat) × Nat × (Nat → Int32)) (M0 M1 : mv_M) (r : Unit) (N : Nat) (k4 : mv_M → Nat → Int32 → Int32 → Int32 → Option (Unit × mv_M)) (hk4 : ∀ (M : mv_M) (v0 : Nat) (v1 : Int32) (v2 : Int32) (v3 : Int32), k4 M v0 v1 v2 v3 = some (r, M1) → mv_G (xg l D E B sa) kd_Tk_doMerge M0 M1 none M 4 [(0, va_rf (some v0)), (1, .int v1), (2, .int v2), (3, .int v3)] []) (M : mv_M) (v0 : Nat) (v1 : Int32) (v2 : Int32) (v3 : Int32) (v4 : Int32) (s0 : Option Nat) (s1 : Int32) (s2 : Int32) (hJ : jb_Tk_doMerge_84 N k4 M v0 v1 v2 v3 v4 s0 s1 s2 = some (r, M1)) : mv_G (xg l D E B sa) kd_Tk_doMerge M0 M1 none M 84 [(0, va_rf (some v0)), (1, .int v1), (2, .int v2), (3, .int v3), (4, .int v4)] [.int s2, .int s1, va_rf s0] := by
  unfold jb_Tk_doMerge_84 at hJ
  obtain ⟨a84, ha, h84a⟩ := mj_bindE hJ
  subst ha
  refine mv_iast (pc := 84) (t := 0) rfl de_Tk_doMerge_84 h84a (fun Mm84 e84 h84 => ?_)
  refine mv_iinc (pc := 85) (v := (v2 + 1)) (lv' := [(2, .int (v2 + 1)), (0, va_rf (some v0)), (1, .int v1), (3, .int v3), (4, .int v4)]) de_Tk_doMerge_85 2 rfl rfl (Nat.le_of_ble_eq_true rfl) rfl ?_
  refine mv_iload_n (pc := 88) (i := 3) de_Tk_doMerge_88 rfl 3 rfl ?_
  refine mv_iload (pc := 89) de_Tk_doMerge_89 4 rfl ?_
  refine mv_if_eq (pc := 91) (tgt := 98) de_Tk_doMerge_91 (by decide) h84 (fun hc91 h91 => ?_) (fun hc91 h91 => ?_)
  · refine mv_iconst (pc := 98) (v := 1) de_Tk_doMerge_98 (by decide) ?_
    exact mv_sub [1, 2, 0] rfl (tb_Tk_doMerge_99 l D E B sa M0 M1 r N k4 hk4 Mm84 v0 v1 (v2 + 1) v3 1 h91)
  · refine mv_iconst (pc := 94) (v := 2) de_Tk_doMerge_94 (by decide) ?_
    refine mv_goto (pc := 95) (tgt := 99) de_Tk_doMerge_95 (by decide) ?_
    exact mv_sub [1, 2, 0] rfl (tb_Tk_doMerge_99 l D E B sa M0 M1 r N k4 hk4 Mm84 v0 v1 (v2 + 1) v3 2 h91)
set_option maxHeartbeats 4000000 in
set_option maxRecDepth 100000 in
theorem tb_Tk_doMerge_59 (l : Launch) (D : va_G) (E : Nat → ClassId) (B : Nat) (sa : (Nat → Nat) × Nat × (Nat → Int32)) (M0 M1 : mv_M) (r : Unit) (N : Nat) (k4 : mv_M → Nat → Int32 → Int32 → Int32 → Option (Unit × mv_M)) (hk4 : ∀ (M : mv_M) (v0 : Nat) (v1 : Int32) (v2 : Int32) (v3 : Int32), k4 M v0 v1 v2 v3 = some (r, M1) → mv_G (xg l D E B sa) kd_Tk_doMerge M0 M1 none M 4 [(0, va_rf (some v0)), (1, .int v1), (2, .int v2), (3, .int v3)] []) (M : mv_M) (v0 : Nat) (v1 : Int32) (v2 : Int32) (v3 : Int32) (s0 : Int32) (hJ : jb_Tk_doMerge_59 N k4 M v0 v1 v2 v3 s0 = some (r, M1)) : mv_G (xg l D E B sa) kd_Tk_doMerge M0 M1 none M 59 [(0, va_rf (some v0)), (1, .int v1), (2, .int v2), (3, .int v3)] [.int s0] := by
  unfold jb_Tk_doMerge_59 at hJ
  refine mv_istore (pc := 59) (lv' := [(4, .int s0), (0, va_rf (some v0)), (1, .int v1), (2, .int v2), (3, .int v3)]) de_Tk_doMerge_59 (Nat.le_of_ble_eq_true rfl) rfl ?_
  refine mv_aload_n (pc := 61) (i := 0) de_Tk_doMerge_61 rfl 1 rfl ?_
  refine mv_getR (pc := 62) (f := 0) (kc_8 l D E B sa) (Nat.le_of_ble_eq_true rfl) wt_1_122 de_Tk_doMerge_62 hJ (fun x62 e62 h62 => ?_)
  refine mv_iload_n (pc := 65) (i := 2) de_Tk_doMerge_65 rfl 3 rfl ?_
  refine mv_iload (pc := 66) de_Tk_doMerge_66 0 rfl ?_
  refine mv_if_eq (pc := 68) (tgt := 78) de_Tk_doMerge_68 (by decide) h62 (fun hc68 h68 => ?_) (fun hc68 h68 => ?_)
  · refine mv_aload_n (pc := 78) (i := 0) de_Tk_doMerge_78 rfl 1 rfl ?_
    refine mv_getR (pc := 79) (f := 0) (kc_8 l D E B sa) (Nat.le_of_ble_eq_true rfl) wt_1_122 de_Tk_doMerge_79 h68 (fun x79 e79 h79 => ?_)
    refine mv_iload_n (pc := 82) (i := 3) de_Tk_doMerge_82 rfl 4 rfl ?_
    obtain ⟨a83, ha, h83a⟩ := mj_bindE h79
    subst ha
    refine mv_iald (pc := 83) (t := 0) rfl de_Tk_doMerge_83 h83a (fun x83 e83 h83 => ?_)
    exact mv_sub [1, 2, 3, 4, 0] rfl (tb_Tk_doMerge_84 l D E B sa M0 M1 r N k4 hk4 M v0 v1 v2 v3 s0 x62 v2 x83 h83)
  · refine mv_bipush (pc := 71) (v := 26) de_Tk_doMerge_71 (by decide) ?_
    refine mv_iload_n (pc := 73) (i := 1) de_Tk_doMerge_73 rfl 2 rfl ?_
    refine mv_iadd (pc := 74) de_Tk_doMerge_74 ?_
    refine mv_goto (pc := 75) (tgt := 84) de_Tk_doMerge_75 (by decide) ?_
    exact mv_sub [1, 2, 3, 4, 0] rfl (tb_Tk_doMerge_84 l D E B sa M0 M1 r N k4 hk4 M v0 v1 v2 v3 s0 x62 v2 (26 + v1) h68)
set_option maxHeartbeats 4000000 in
set_option maxRecDepth 100000 in
theorem tb_Tk_doMerge_58 (l : Launch) (D : va_G) (E : Nat → ClassId) (B : Nat) (sa : (Nat → Nat) × Nat × (Nat → Int32)) (M0 M1 : mv_M) (r : Unit) (N : Nat) (k4 : mv_M → Nat → Int32 → Int32 → Int32 → Option (Unit × mv_M)) (hk4 : ∀ (M : mv_M) (v0 : Nat) (v1 : Int32) (v2 : Int32) (v3 : Int32), k4 M v0 v1 v2 v3 = some (r, M1) → mv_G (xg l D E B sa) kd_Tk_doMerge M0 M1 none M 4 [(0, va_rf (some v0)), (1, .int v1), (2, .int v2), (3, .int v3)] []) (M : mv_M) (v0 : Nat) (v1 : Int32) (v2 : Int32) (v3 : Int32) (hJ : jb_Tk_doMerge_58 N k4 M v0 v1 v2 v3 = some (r, M1)) : mv_G (xg l D E B sa) kd_Tk_doMerge M0 M1 none M 58 [(0, va_rf (some v0)), (1, .int v1), (2, .int v2), (3, .int v3)] [] := by
  unfold jb_Tk_doMerge_58 at hJ
  refine mv_iconst (pc := 58) (v := 0) de_Tk_doMerge_58 (by decide) ?_
  exact mv_sub [0, 1, 2, 3] rfl (tb_Tk_doMerge_59 l D E B sa M0 M1 r N k4 hk4 M v0 v1 v2 v3 0 hJ)
set_option maxHeartbeats 4000000 in
set_option maxRecDepth 100000 in
theorem tb_Tk_doMerge_4 (l : Launch) (D : va_G) (E : Nat → ClassId) (B : Nat) (sa : (Nat → Nat) × Nat × (Nat → Int32)) (M0 M1 : mv_M) (r : Unit) (N : Nat) : ∀ (n : Nat) (M : mv_M) (v0 : Nat) (v1 : Int32) (v2 : Int32) (v3 : Int32) (hJ : jb_Tk_doMerge_4 N n M v0 v1 v2 v3 = some (r, M1)), mv_G (xg l D E B sa) kd_Tk_doMerge M0 M1 none M 4 [(0, va_rf (some v0)), (1, .int v1), (2, .int v2), (3, .int v3)] [] := by
  intro n
  induction n with
  | zero => intro M v0 v1 v2 v3 hJ; cases hJ
  | succ n ih =>
    intro M v0 v1 v2 v3 hJ
    rw [jb_Tk_doMerge_4] at hJ
    refine mv_iload_n (pc := 4) (i := 3) de_Tk_doMerge_4 rfl 3 rfl ?_
    refine mv_aload_n (pc := 5) (i := 0) de_Tk_doMerge_5 rfl 0 rfl ?_
    refine mv_getI (pc := 6) (f := 5) (kc_8 l D E B sa) (Nat.le_of_ble_eq_true rfl) wt_1_127 de_Tk_doMerge_6 hJ (fun x6 e6 h6 => ?_)
    refine mv_icmp_ge (pc := 9) (tgt := 104) de_Tk_doMerge_9 (by decide) h6 (fun hc9 h9 => ?_) (fun hc9 h9 => ?_)
    · refine mv_aload_n (pc := 104) (i := 0) de_Tk_doMerge_104 rfl 0 rfl ?_
      refine mv_iload_n (pc := 105) (i := 2) de_Tk_doMerge_105 rfl 2 rfl ?_
      refine mv_put (pc := 106) (f := 5) (kc_8 l D E B sa) (Nat.le_of_ble_eq_true rfl) wt_1_127 rfl rfl rfl de_Tk_doMerge_106 h9 (fun Mm106 e106 h106 => ?_)
      exact mv_vret (pc := 109) rfl de_Tk_doMerge_109 h106
    · refine mv_iload_n (pc := 12) (i := 3) de_Tk_doMerge_12 rfl 3 rfl ?_
      refine mv_iconst (pc := 13) (v := 1) de_Tk_doMerge_13 (by decide) ?_
      refine mv_iadd (pc := 14) de_Tk_doMerge_14 ?_
      refine mv_aload_n (pc := 15) (i := 0) de_Tk_doMerge_15 rfl 0 rfl ?_
      refine mv_getI (pc := 16) (f := 5) (kc_8 l D E B sa) (Nat.le_of_ble_eq_true rfl) wt_1_127 de_Tk_doMerge_16 h9 (fun x16 e16 h16 => ?_)
      refine mv_icmp_ge (pc := 19) (tgt := 58) de_Tk_doMerge_19 (by decide) h16 (fun hc19 h19 => ?_) (fun hc19 h19 => ?_)
      · exact mv_sub [0, 1, 2, 3] rfl (tb_Tk_doMerge_58 l D E B sa M0 M1 r N (jb_Tk_doMerge_4 N n) ih M v0 v1 v2 v3 h19)
      · refine mv_aload_n (pc := 22) (i := 0) de_Tk_doMerge_22 rfl 0 rfl ?_
        refine mv_getR (pc := 23) (f := 0) (kc_8 l D E B sa) (Nat.le_of_ble_eq_true rfl) wt_1_122 de_Tk_doMerge_23 h19 (fun x23 e23 h23 => ?_)
        refine mv_iload_n (pc := 26) (i := 3) de_Tk_doMerge_26 rfl 3 rfl ?_
        obtain ⟨a27, ha, h27a⟩ := mj_bindE h23
        subst ha
        refine mv_iald (pc := 27) (t := 0) rfl de_Tk_doMerge_27 h27a (fun x27 e27 h27 => ?_)
        refine mv_aload_n (pc := 28) (i := 0) de_Tk_doMerge_28 rfl 0 rfl ?_
        refine mv_getR (pc := 29) (f := 1) (kc_8 l D E B sa) (Nat.le_of_ble_eq_true rfl) wt_1_123 de_Tk_doMerge_29 h27 (fun x29 e29 h29 => ?_)
        refine mv_iload_n (pc := 32) (i := 1) de_Tk_doMerge_32 rfl 1 rfl ?_
        obtain ⟨a33, ha, h33a⟩ := mj_bindE h29
        subst ha
        refine mv_iald (pc := 33) (t := 0) rfl de_Tk_doMerge_33 h33a (fun x33 e33 h33 => ?_)
        refine mv_icmp_ne (pc := 34) (tgt := 58) de_Tk_doMerge_34 (by decide) h33 (fun hc34 h34 => ?_) (fun hc34 h34 => ?_)
        · refine mv_aload_n (pc := 37) (i := 0) de_Tk_doMerge_37 rfl 0 rfl ?_
          refine mv_getR (pc := 38) (f := 0) (kc_8 l D E B sa) (Nat.le_of_ble_eq_true rfl) wt_1_122 de_Tk_doMerge_38 h34 (fun x38 e38 h38 => ?_)
          refine mv_iload_n (pc := 41) (i := 3) de_Tk_doMerge_41 rfl 3 rfl ?_
          refine mv_iconst (pc := 42) (v := 1) de_Tk_doMerge_42 (by decide) ?_
          refine mv_iadd (pc := 43) de_Tk_doMerge_43 ?_
          obtain ⟨a44, ha, h44a⟩ := mj_bindE h38
          subst ha
          refine mv_iald (pc := 44) (t := 0) rfl de_Tk_doMerge_44 h44a (fun x44 e44 h44 => ?_)
          refine mv_aload_n (pc := 45) (i := 0) de_Tk_doMerge_45 rfl 0 rfl ?_
          refine mv_getR (pc := 46) (f := 2) (kc_8 l D E B sa) (Nat.le_of_ble_eq_true rfl) wt_1_124 de_Tk_doMerge_46 h44 (fun x46 e46 h46 => ?_)
          refine mv_iload_n (pc := 49) (i := 1) de_Tk_doMerge_49 rfl 1 rfl ?_
          obtain ⟨a50, ha, h50a⟩ := mj_bindE h46
          subst ha
          refine mv_iald (pc := 50) (t := 0) rfl de_Tk_doMerge_50 h50a (fun x50 e50 h50 => ?_)
          refine mv_icmp_ne (pc := 51) (tgt := 58) de_Tk_doMerge_51 (by decide) h50 (fun hc51 h51 => ?_) (fun hc51 h51 => ?_)
          · refine mv_iconst (pc := 54) (v := 1) de_Tk_doMerge_54 (by decide) ?_
            refine mv_goto (pc := 55) (tgt := 59) de_Tk_doMerge_55 (by decide) ?_
            exact mv_sub [0, 1, 2, 3] rfl (tb_Tk_doMerge_59 l D E B sa M0 M1 r N (jb_Tk_doMerge_4 N n) ih M v0 v1 v2 v3 1 h51)
          · exact mv_sub [0, 1, 2, 3] rfl (tb_Tk_doMerge_58 l D E B sa M0 M1 r N (jb_Tk_doMerge_4 N n) ih M v0 v1 v2 v3 h51)
        · exact mv_sub [0, 1, 2, 3] rfl (tb_Tk_doMerge_58 l D E B sa M0 M1 r N (jb_Tk_doMerge_4 N n) ih M v0 v1 v2 v3 h34)
set_option maxHeartbeats 4000000 in
set_option maxRecDepth 100000 in
theorem tb_Tk_doMerge_0 (l : Launch) (D : va_G) (E : Nat → ClassId) (B : Nat) (sa : (Nat → Nat) × Nat × (Nat → Int32)) (M0 M1 : mv_M) (r : Unit) (N : Nat) (M : mv_M) (v0 : Nat) (v1 : Int32) (hJ : jb_Tk_doMerge_0 N M v0 v1 = some (r, M1)) : mv_G (xg l D E B sa) kd_Tk_doMerge M0 M1 none M 0 [(0, va_rf (some v0)), (1, .int v1)] [] := by
  unfold jb_Tk_doMerge_0 at hJ
  refine mv_iconst (pc := 0) (v := 0) de_Tk_doMerge_0 (by decide) ?_
  refine mv_istore_n (pc := 1) (i := 2) (lv' := [(2, .int 0), (0, va_rf (some v0)), (1, .int v1)]) de_Tk_doMerge_1 rfl (Nat.le_of_ble_eq_true rfl) rfl ?_
  refine mv_iconst (pc := 2) (v := 0) de_Tk_doMerge_2 (by decide) ?_
  refine mv_istore_n (pc := 3) (i := 3) (lv' := [(3, .int 0), (2, .int 0), (0, va_rf (some v0)), (1, .int v1)]) de_Tk_doMerge_3 rfl (Nat.le_of_ble_eq_true rfl) rfl ?_
  exact mv_sub [2, 3, 1, 0] rfl (tb_Tk_doMerge_4 l D E B sa M0 M1 r N N M v0 v1 0 0 hJ)
theorem cm_Tk_doMerge (l : Launch) (D : va_G) (E : Nat → ClassId) (B : Nat) (sa : (Nat → Nat) × Nat × (Nat → Int32)) (N : Nat) (M : mv_M) (v0 : Nat) (v1 : Int32) (r : Unit) (M1 : mv_M) (hJ : jf_Tk_doMerge N M v0 v1 = some (r, M1)) : mv_Met (xg l D E B sa) yn_Tk_doMerge cd_Tk_doMerge 5 none 0 0 [va_rf (some v0), .int v1] M none M1 :=
  mv_enter (by decide) (Nat.le_of_ble_eq_true rfl) (mv_sub (lv := [(0, va_rf (some v0)), (1, .int v1)]) [0, 1] rfl (tb_Tk_doMerge_0 l D E B sa M M1 r N M v0 v1 hJ))
/-! ===== PlainLearner$Tokens.learnMerge()I ===== -/
abbrev kd_Tk_learnMerge : mv_Kd := (cd_Tk_learnMerge, 2, "PlainLearner$Tokens", "learnMerge", (some .int), 2, 45)
theorem de_Tk_learnMerge_0 : decode cd_Tk_learnMerge 0 = .ok (.aload_n 0, 1) := by decide +kernel
theorem de_Tk_learnMerge_1 : decode cd_Tk_learnMerge 1 = .ok (.invokevirtual 40, 3) := by decide +kernel
theorem de_Tk_learnMerge_4 : decode cd_Tk_learnMerge 4 = .ok (.aload_n 0, 1) := by decide +kernel
theorem de_Tk_learnMerge_5 : decode cd_Tk_learnMerge 5 = .ok (.invokevirtual 43, 3) := by decide +kernel
theorem de_Tk_learnMerge_8 : decode cd_Tk_learnMerge 8 = .ok (.istore_n 1, 1) := by decide +kernel
theorem de_Tk_learnMerge_9 : decode cd_Tk_learnMerge 9 = .ok (.iload_n 1, 1) := by decide +kernel
theorem de_Tk_learnMerge_10 : decode cd_Tk_learnMerge 10 = .ok (.ifCond .ge 6, 3) := by decide +kernel
theorem de_Tk_learnMerge_13 : decode cd_Tk_learnMerge 13 = .ok (.bipush (-2), 2) := by decide +kernel
theorem de_Tk_learnMerge_15 : decode cd_Tk_learnMerge 15 = .ok (.ireturn, 1) := by decide +kernel
theorem de_Tk_learnMerge_16 : decode cd_Tk_learnMerge 16 = .ok (.aload_n 0, 1) := by decide +kernel
theorem de_Tk_learnMerge_17 : decode cd_Tk_learnMerge 17 = .ok (.getfield 37, 3) := by decide +kernel
theorem de_Tk_learnMerge_20 : decode cd_Tk_learnMerge 20 = .ok (.bipush 60, 2) := by decide +kernel
theorem de_Tk_learnMerge_22 : decode cd_Tk_learnMerge 22 = .ok (.if_icmp .lt 6, 3) := by decide +kernel
theorem de_Tk_learnMerge_25 : decode cd_Tk_learnMerge 25 = .ok (.bipush (-3), 2) := by decide +kernel
theorem de_Tk_learnMerge_27 : decode cd_Tk_learnMerge 27 = .ok (.ireturn, 1) := by decide +kernel
theorem de_Tk_learnMerge_28 : decode cd_Tk_learnMerge 28 = .ok (.aload_n 0, 1) := by decide +kernel
theorem de_Tk_learnMerge_29 : decode cd_Tk_learnMerge 29 = .ok (.getfield 15, 3) := by decide +kernel
theorem de_Tk_learnMerge_32 : decode cd_Tk_learnMerge 32 = .ok (.aload_n 0, 1) := by decide +kernel
theorem de_Tk_learnMerge_33 : decode cd_Tk_learnMerge 33 = .ok (.getfield 37, 3) := by decide +kernel
theorem de_Tk_learnMerge_36 : decode cd_Tk_learnMerge 36 = .ok (.iload_n 1, 1) := by decide +kernel
theorem de_Tk_learnMerge_37 : decode cd_Tk_learnMerge 37 = .ok (.bipush 86, 2) := by decide +kernel
theorem de_Tk_learnMerge_39 : decode cd_Tk_learnMerge 39 = .ok (.idiv, 1) := by decide +kernel
theorem de_Tk_learnMerge_40 : decode cd_Tk_learnMerge 40 = .ok (.iastore, 1) := by decide +kernel
theorem de_Tk_learnMerge_41 : decode cd_Tk_learnMerge 41 = .ok (.aload_n 0, 1) := by decide +kernel
theorem de_Tk_learnMerge_42 : decode cd_Tk_learnMerge 42 = .ok (.getfield 18, 3) := by decide +kernel
theorem de_Tk_learnMerge_45 : decode cd_Tk_learnMerge 45 = .ok (.aload_n 0, 1) := by decide +kernel
theorem de_Tk_learnMerge_46 : decode cd_Tk_learnMerge 46 = .ok (.getfield 37, 3) := by decide +kernel
theorem de_Tk_learnMerge_49 : decode cd_Tk_learnMerge 49 = .ok (.iload_n 1, 1) := by decide +kernel
theorem de_Tk_learnMerge_50 : decode cd_Tk_learnMerge 50 = .ok (.bipush 86, 2) := by decide +kernel
theorem de_Tk_learnMerge_52 : decode cd_Tk_learnMerge 52 = .ok (.irem, 1) := by decide +kernel
theorem de_Tk_learnMerge_53 : decode cd_Tk_learnMerge 53 = .ok (.iastore, 1) := by decide +kernel
theorem de_Tk_learnMerge_54 : decode cd_Tk_learnMerge 54 = .ok (.aload_n 0, 1) := by decide +kernel
theorem de_Tk_learnMerge_55 : decode cd_Tk_learnMerge 55 = .ok (.getfield 21, 3) := by decide +kernel
theorem de_Tk_learnMerge_58 : decode cd_Tk_learnMerge 58 = .ok (.aload_n 0, 1) := by decide +kernel
theorem de_Tk_learnMerge_59 : decode cd_Tk_learnMerge 59 = .ok (.getfield 37, 3) := by decide +kernel
theorem de_Tk_learnMerge_62 : decode cd_Tk_learnMerge 62 = .ok (.aload_n 0, 1) := by decide +kernel
theorem de_Tk_learnMerge_63 : decode cd_Tk_learnMerge 63 = .ok (.aload_n 0, 1) := by decide +kernel
theorem de_Tk_learnMerge_64 : decode cd_Tk_learnMerge 64 = .ok (.getfield 15, 3) := by decide +kernel
theorem de_Tk_learnMerge_67 : decode cd_Tk_learnMerge 67 = .ok (.aload_n 0, 1) := by decide +kernel
theorem de_Tk_learnMerge_68 : decode cd_Tk_learnMerge 68 = .ok (.getfield 37, 3) := by decide +kernel
theorem de_Tk_learnMerge_71 : decode cd_Tk_learnMerge 71 = .ok (.iaload, 1) := by decide +kernel
theorem de_Tk_learnMerge_72 : decode cd_Tk_learnMerge 72 = .ok (.invokevirtual 47, 3) := by decide +kernel
theorem de_Tk_learnMerge_75 : decode cd_Tk_learnMerge 75 = .ok (.aload_n 0, 1) := by decide +kernel
theorem de_Tk_learnMerge_76 : decode cd_Tk_learnMerge 76 = .ok (.aload_n 0, 1) := by decide +kernel
theorem de_Tk_learnMerge_77 : decode cd_Tk_learnMerge 77 = .ok (.getfield 18, 3) := by decide +kernel
theorem de_Tk_learnMerge_80 : decode cd_Tk_learnMerge 80 = .ok (.aload_n 0, 1) := by decide +kernel
theorem de_Tk_learnMerge_81 : decode cd_Tk_learnMerge 81 = .ok (.getfield 37, 3) := by decide +kernel
theorem de_Tk_learnMerge_84 : decode cd_Tk_learnMerge 84 = .ok (.iaload, 1) := by decide +kernel
theorem de_Tk_learnMerge_85 : decode cd_Tk_learnMerge 85 = .ok (.invokevirtual 47, 3) := by decide +kernel
theorem de_Tk_learnMerge_88 : decode cd_Tk_learnMerge 88 = .ok (.iadd, 1) := by decide +kernel
theorem de_Tk_learnMerge_89 : decode cd_Tk_learnMerge 89 = .ok (.iastore, 1) := by decide +kernel
theorem de_Tk_learnMerge_90 : decode cd_Tk_learnMerge 90 = .ok (.aload_n 0, 1) := by decide +kernel
theorem de_Tk_learnMerge_91 : decode cd_Tk_learnMerge 91 = .ok (.aload_n 0, 1) := by decide +kernel
theorem de_Tk_learnMerge_92 : decode cd_Tk_learnMerge 92 = .ok (.getfield 37, 3) := by decide +kernel
theorem de_Tk_learnMerge_95 : decode cd_Tk_learnMerge 95 = .ok (.invokevirtual 51, 3) := by decide +kernel
theorem de_Tk_learnMerge_98 : decode cd_Tk_learnMerge 98 = .ok (.aload_n 0, 1) := by decide +kernel
theorem de_Tk_learnMerge_99 : decode cd_Tk_learnMerge 99 = .ok (.dup, 1) := by decide +kernel
theorem de_Tk_learnMerge_100 : decode cd_Tk_learnMerge 100 = .ok (.getfield 37, 3) := by decide +kernel
theorem de_Tk_learnMerge_103 : decode cd_Tk_learnMerge 103 = .ok (.iconst 1, 1) := by decide +kernel
theorem de_Tk_learnMerge_104 : decode cd_Tk_learnMerge 104 = .ok (.iadd, 1) := by decide +kernel
theorem de_Tk_learnMerge_105 : decode cd_Tk_learnMerge 105 = .ok (.putfield 37, 3) := by decide +kernel
theorem de_Tk_learnMerge_108 : decode cd_Tk_learnMerge 108 = .ok (.bipush 26, 2) := by decide +kernel
theorem de_Tk_learnMerge_110 : decode cd_Tk_learnMerge 110 = .ok (.aload_n 0, 1) := by decide +kernel
theorem de_Tk_learnMerge_111 : decode cd_Tk_learnMerge 111 = .ok (.getfield 37, 3) := by decide +kernel
theorem de_Tk_learnMerge_114 : decode cd_Tk_learnMerge 114 = .ok (.iadd, 1) := by decide +kernel
theorem de_Tk_learnMerge_115 : decode cd_Tk_learnMerge 115 = .ok (.iconst 1, 1) := by decide +kernel
theorem de_Tk_learnMerge_116 : decode cd_Tk_learnMerge 116 = .ok (.isub, 1) := by decide +kernel
theorem de_Tk_learnMerge_117 : decode cd_Tk_learnMerge 117 = .ok (.ireturn, 1) := by decide +kernel
def jb_Tk_learnMerge_0 (N : Nat) (M : mv_M) (v0 : Nat) : Option (Int32 × mv_M) :=
  mj_ob M v0 8 <|
  mj_call (jf_Tk_countPairs N M v0) fun r1 Mm1 =>
  mj_ob Mm1 v0 8 <|
  mj_call (jf_Tk_mostFrequentPair N Mm1 v0) fun r5 Mm5 =>
  if 0 ≤ r5 then (Option.bind (mj_getI Mm5 v0 8 6) fun x17 =>
  if x17 < 60 then (Option.bind (mj_getR Mm5 v0 8 1) fun x29 =>
  Option.bind (mj_getI Mm5 v0 8 6) fun x33 =>
  Option.bind x29 fun a40 =>
  Option.bind (mj_ist Mm5 a40 0 x33 (r5 / 86)) fun Mm40 =>
  Option.bind (mj_getR Mm40 v0 8 2) fun x42 =>
  Option.bind (mj_getI Mm40 v0 8 6) fun x46 =>
  Option.bind x42 fun a53 =>
  Option.bind (mj_ist Mm40 a53 0 x46 (r5 - r5 / 86 * 86)) fun Mm53 =>
  Option.bind (mj_getR Mm53 v0 8 3) fun x55 =>
  Option.bind (mj_getI Mm53 v0 8 6) fun x59 =>
  Option.bind (mj_getR Mm53 v0 8 1) fun x64 =>
  Option.bind (mj_getI Mm53 v0 8 6) fun x68 =>
  Option.bind x64 fun a71 =>
  Option.bind (mj_ild Mm53 a71 0 x68) fun x71 =>
  mj_ob Mm53 v0 8 <|
  mj_call (jf_Tk_lettersOf N Mm53 v0 x71) fun r72 Mm72 =>
  Option.bind (mj_getR Mm72 v0 8 2) fun x77 =>
  Option.bind (mj_getI Mm72 v0 8 6) fun x81 =>
  Option.bind x77 fun a84 =>
  Option.bind (mj_ild Mm72 a84 0 x81) fun x84 =>
  mj_ob Mm72 v0 8 <|
  mj_call (jf_Tk_lettersOf N Mm72 v0 x84) fun r85 Mm85 =>
  Option.bind x55 fun a89 =>
  Option.bind (mj_ist Mm85 a89 0 x59 (r72 + r85)) fun Mm89 =>
  Option.bind (mj_getI Mm89 v0 8 6) fun x92 =>
  mj_ob Mm89 v0 8 <|
  mj_call (jf_Tk_doMerge N Mm89 v0 x92) fun r95 Mm95 =>
  Option.bind (mj_getI Mm95 v0 8 6) fun x100 =>
  Option.bind (mj_put Mm95 v0 8 6 (.int (x100 + 1))) fun Mm105 =>
  Option.bind (mj_getI Mm105 v0 8 6) fun x111 =>
  some (((26 + x111) - 1), Mm105)) else
  some ((-3), Mm5)) else
  some ((-2), Mm5)
def jf_Tk_learnMerge (N : Nat) (M : mv_M) (v0 : Nat) : Option (Int32 × mv_M) := jb_Tk_learnMerge_0 N M v0
set_option maxHeartbeats 4000000 in
set_option maxRecDepth 100000 in
theorem tb_Tk_learnMerge_0 (l : Launch) (D : va_G) (E : Nat → ClassId) (B : Nat) (sa : (Nat → Nat) × Nat × (Nat → Int32)) (M0 M1 : mv_M) (r : Int32) (N : Nat) (M : mv_M) (v0 : Nat) (hJ : jb_Tk_learnMerge_0 N M v0 = some (r, M1)) : mv_G (xg l D E B sa) kd_Tk_learnMerge M0 M1 (some (.int r)) M 0 [(0, va_rf (some v0))] [] := by
  unfold jb_Tk_learnMerge_0 at hJ
  refine mv_aload_n (pc := 0) (i := 0) de_Tk_learnMerge_0 rfl 0 rfl ?_
  obtain ⟨hi1, h1o⟩ := mj_obE hJ
  obtain ⟨r1, Mm1, hz1, h1⟩ := mj_callE h1o
  refine mv_callV (pc := 1) (n := 0) (av := []) (rest := []) de_Tk_learnMerge_1 (kc_8 l D E B sa) hi1 (cm_Tk_countPairs l D E B sa N M v0 _ _ hz1) wt_4_21 wt_4_23 wp_21 wt_1_7 wt_4_24 ⟨by decide, by decide, by decide +kernel⟩ rfl ⟨Nat.le_of_ble_eq_true rfl, Nat.le_of_ble_eq_true rfl⟩ (Nat.le_of_ble_eq_true rfl) rfl ?_
  refine mv_aload_n (pc := 4) (i := 0) de_Tk_learnMerge_4 rfl 0 rfl ?_
  obtain ⟨hi5, h5o⟩ := mj_obE h1
  obtain ⟨r5, Mm5, hz5, h5⟩ := mj_callE h5o
  refine mv_callV (pc := 5) (n := 0) (av := []) (rest := []) de_Tk_learnMerge_5 (kc_8 l D E B sa) hi5 (cm_Tk_mostFrequentPair l D E B sa N Mm1 v0 _ _ hz5) wt_4_29 wt_4_31 wp_23 wt_1_7 wt_4_32 ⟨by decide, by decide, by decide +kernel⟩ rfl ⟨Nat.le_of_ble_eq_true rfl, Nat.le_of_ble_eq_true rfl⟩ (Nat.le_of_ble_eq_true rfl) rfl ?_
  refine mv_istore_n (pc := 8) (i := 1) (lv' := [(1, .int r5), (0, va_rf (some v0))]) de_Tk_learnMerge_8 rfl (Nat.le_of_ble_eq_true rfl) rfl ?_
  refine mv_iload_n (pc := 9) (i := 1) de_Tk_learnMerge_9 rfl 0 rfl ?_
  refine mv_if_ge (pc := 10) (tgt := 16) de_Tk_learnMerge_10 (by decide) h5 (fun hc10 h10 => ?_) (fun hc10 h10 => ?_)
  · refine mv_aload_n (pc := 16) (i := 0) de_Tk_learnMerge_16 rfl 1 rfl ?_
    refine mv_getI (pc := 17) (f := 6) (kc_8 l D E B sa) (Nat.le_of_ble_eq_true rfl) wt_1_129 de_Tk_learnMerge_17 h10 (fun x17 e17 h17 => ?_)
    refine mv_bipush (pc := 20) (v := 60) de_Tk_learnMerge_20 (by decide) ?_
    refine mv_icmp_lt (pc := 22) (tgt := 28) de_Tk_learnMerge_22 (by decide) h17 (fun hc22 h22 => ?_) (fun hc22 h22 => ?_)
    · refine mv_aload_n (pc := 28) (i := 0) de_Tk_learnMerge_28 rfl 1 rfl ?_
      refine mv_getR (pc := 29) (f := 1) (kc_8 l D E B sa) (Nat.le_of_ble_eq_true rfl) wt_1_123 de_Tk_learnMerge_29 h22 (fun x29 e29 h29 => ?_)
      refine mv_aload_n (pc := 32) (i := 0) de_Tk_learnMerge_32 rfl 1 rfl ?_
      refine mv_getI (pc := 33) (f := 6) (kc_8 l D E B sa) (Nat.le_of_ble_eq_true rfl) wt_1_129 de_Tk_learnMerge_33 h29 (fun x33 e33 h33 => ?_)
      refine mv_iload_n (pc := 36) (i := 1) de_Tk_learnMerge_36 rfl 0 rfl ?_
      refine mv_bipush (pc := 37) (v := 86) de_Tk_learnMerge_37 (by decide) ?_
      refine mv_idivC (pc := 39) de_Tk_learnMerge_39 (by decide) ?_
      obtain ⟨a40, ha, h40a⟩ := mj_bindE h33
      subst ha
      refine mv_iast (pc := 40) (t := 0) rfl de_Tk_learnMerge_40 h40a (fun Mm40 e40 h40 => ?_)
      refine mv_aload_n (pc := 41) (i := 0) de_Tk_learnMerge_41 rfl 1 rfl ?_
      refine mv_getR (pc := 42) (f := 2) (kc_8 l D E B sa) (Nat.le_of_ble_eq_true rfl) wt_1_124 de_Tk_learnMerge_42 h40 (fun x42 e42 h42 => ?_)
      refine mv_aload_n (pc := 45) (i := 0) de_Tk_learnMerge_45 rfl 1 rfl ?_
      refine mv_getI (pc := 46) (f := 6) (kc_8 l D E B sa) (Nat.le_of_ble_eq_true rfl) wt_1_129 de_Tk_learnMerge_46 h42 (fun x46 e46 h46 => ?_)
      refine mv_iload_n (pc := 49) (i := 1) de_Tk_learnMerge_49 rfl 0 rfl ?_
      refine mv_bipush (pc := 50) (v := 86) de_Tk_learnMerge_50 (by decide) ?_
      refine mv_iremC (pc := 52) de_Tk_learnMerge_52 (by decide) ?_
      obtain ⟨a53, ha, h53a⟩ := mj_bindE h46
      subst ha
      refine mv_iast (pc := 53) (t := 0) rfl de_Tk_learnMerge_53 h53a (fun Mm53 e53 h53 => ?_)
      refine mv_aload_n (pc := 54) (i := 0) de_Tk_learnMerge_54 rfl 1 rfl ?_
      refine mv_getR (pc := 55) (f := 3) (kc_8 l D E B sa) (Nat.le_of_ble_eq_true rfl) wt_1_125 de_Tk_learnMerge_55 h53 (fun x55 e55 h55 => ?_)
      refine mv_aload_n (pc := 58) (i := 0) de_Tk_learnMerge_58 rfl 1 rfl ?_
      refine mv_getI (pc := 59) (f := 6) (kc_8 l D E B sa) (Nat.le_of_ble_eq_true rfl) wt_1_129 de_Tk_learnMerge_59 h55 (fun x59 e59 h59 => ?_)
      refine mv_aload_n (pc := 62) (i := 0) de_Tk_learnMerge_62 rfl 1 rfl ?_
      refine mv_aload_n (pc := 63) (i := 0) de_Tk_learnMerge_63 rfl 1 rfl ?_
      refine mv_getR (pc := 64) (f := 1) (kc_8 l D E B sa) (Nat.le_of_ble_eq_true rfl) wt_1_123 de_Tk_learnMerge_64 h59 (fun x64 e64 h64 => ?_)
      refine mv_aload_n (pc := 67) (i := 0) de_Tk_learnMerge_67 rfl 1 rfl ?_
      refine mv_getI (pc := 68) (f := 6) (kc_8 l D E B sa) (Nat.le_of_ble_eq_true rfl) wt_1_129 de_Tk_learnMerge_68 h64 (fun x68 e68 h68 => ?_)
      obtain ⟨a71, ha, h71a⟩ := mj_bindE h68
      subst ha
      refine mv_iald (pc := 71) (t := 0) rfl de_Tk_learnMerge_71 h71a (fun x71 e71 h71 => ?_)
      obtain ⟨hi72, h72o⟩ := mj_obE h71
      obtain ⟨r72, Mm72, hz72, h72⟩ := mj_callE h72o
      refine mv_callV (pc := 72) (n := 1) (av := [.int x71]) (rest := [.int x59, va_rf x55]) de_Tk_learnMerge_72 (kc_8 l D E B sa) hi72 (cm_Tk_lettersOf l D E B sa N Mm53 v0 x71 _ _ hz72) wt_4_33 wt_4_35 wp_24 wt_1_7 wt_4_36 ⟨by decide, by decide, by decide +kernel⟩ rfl ⟨Nat.le_of_ble_eq_true rfl, Nat.le_of_ble_eq_true rfl⟩ (by simp [mv_cat, mv_cI, mv_cJ]) rfl ?_
      refine mv_aload_n (pc := 75) (i := 0) de_Tk_learnMerge_75 rfl 1 rfl ?_
      refine mv_aload_n (pc := 76) (i := 0) de_Tk_learnMerge_76 rfl 1 rfl ?_
      refine mv_getR (pc := 77) (f := 2) (kc_8 l D E B sa) (Nat.le_of_ble_eq_true rfl) wt_1_124 de_Tk_learnMerge_77 h72 (fun x77 e77 h77 => ?_)
      refine mv_aload_n (pc := 80) (i := 0) de_Tk_learnMerge_80 rfl 1 rfl ?_
      refine mv_getI (pc := 81) (f := 6) (kc_8 l D E B sa) (Nat.le_of_ble_eq_true rfl) wt_1_129 de_Tk_learnMerge_81 h77 (fun x81 e81 h81 => ?_)
      obtain ⟨a84, ha, h84a⟩ := mj_bindE h81
      subst ha
      refine mv_iald (pc := 84) (t := 0) rfl de_Tk_learnMerge_84 h84a (fun x84 e84 h84 => ?_)
      obtain ⟨hi85, h85o⟩ := mj_obE h84
      obtain ⟨r85, Mm85, hz85, h85⟩ := mj_callE h85o
      refine mv_callV (pc := 85) (n := 1) (av := [.int x84]) (rest := [.int r72, .int x59, va_rf x55]) de_Tk_learnMerge_85 (kc_8 l D E B sa) hi85 (cm_Tk_lettersOf l D E B sa N Mm72 v0 x84 _ _ hz85) wt_4_33 wt_4_35 wp_24 wt_1_7 wt_4_36 ⟨by decide, by decide, by decide +kernel⟩ rfl ⟨Nat.le_of_ble_eq_true rfl, Nat.le_of_ble_eq_true rfl⟩ (by simp [mv_cat, mv_cI, mv_cJ]) rfl ?_
      refine mv_iadd (pc := 88) de_Tk_learnMerge_88 ?_
      obtain ⟨a89, ha, h89a⟩ := mj_bindE h85
      subst ha
      refine mv_iast (pc := 89) (t := 0) rfl de_Tk_learnMerge_89 h89a (fun Mm89 e89 h89 => ?_)
      refine mv_aload_n (pc := 90) (i := 0) de_Tk_learnMerge_90 rfl 1 rfl ?_
      refine mv_aload_n (pc := 91) (i := 0) de_Tk_learnMerge_91 rfl 1 rfl ?_
      refine mv_getI (pc := 92) (f := 6) (kc_8 l D E B sa) (Nat.le_of_ble_eq_true rfl) wt_1_129 de_Tk_learnMerge_92 h89 (fun x92 e92 h92 => ?_)
      obtain ⟨hi95, h95o⟩ := mj_obE h92
      obtain ⟨r95, Mm95, hz95, h95⟩ := mj_callE h95o
      refine mv_callV (pc := 95) (n := 1) (av := [.int x92]) (rest := []) de_Tk_learnMerge_95 (kc_8 l D E B sa) hi95 (cm_Tk_doMerge l D E B sa N Mm89 v0 x92 _ _ hz95) wt_4_37 wt_4_39 wp_25 wt_1_7 wt_4_40 ⟨by decide, by decide, by decide +kernel⟩ rfl ⟨Nat.le_of_ble_eq_true rfl, Nat.le_of_ble_eq_true rfl⟩ (Nat.le_of_ble_eq_true rfl) rfl ?_
      refine mv_aload_n (pc := 98) (i := 0) de_Tk_learnMerge_98 rfl 1 rfl ?_
      refine mv_dup (pc := 99) de_Tk_learnMerge_99 rfl ?_
      refine mv_getI (pc := 100) (f := 6) (kc_8 l D E B sa) (Nat.le_of_ble_eq_true rfl) wt_1_129 de_Tk_learnMerge_100 h95 (fun x100 e100 h100 => ?_)
      refine mv_iconst (pc := 103) (v := 1) de_Tk_learnMerge_103 (by decide) ?_
      refine mv_iadd (pc := 104) de_Tk_learnMerge_104 ?_
      refine mv_put (pc := 105) (f := 6) (kc_8 l D E B sa) (Nat.le_of_ble_eq_true rfl) wt_1_129 rfl rfl rfl de_Tk_learnMerge_105 h100 (fun Mm105 e105 h105 => ?_)
      refine mv_bipush (pc := 108) (v := 26) de_Tk_learnMerge_108 (by decide) ?_
      refine mv_aload_n (pc := 110) (i := 0) de_Tk_learnMerge_110 rfl 1 rfl ?_
      refine mv_getI (pc := 111) (f := 6) (kc_8 l D E B sa) (Nat.le_of_ble_eq_true rfl) wt_1_129 de_Tk_learnMerge_111 h105 (fun x111 e111 h111 => ?_)
      refine mv_iadd (pc := 114) de_Tk_learnMerge_114 ?_
      refine mv_iconst (pc := 115) (v := 1) de_Tk_learnMerge_115 (by decide) ?_
      refine mv_isub (pc := 116) de_Tk_learnMerge_116 ?_
      exact mv_iret (pc := 117) rfl de_Tk_learnMerge_117 h111
    · refine mv_bipush (pc := 25) (v := (-3)) de_Tk_learnMerge_25 (by decide) ?_
      exact mv_iret (pc := 27) rfl de_Tk_learnMerge_27 h22
  · refine mv_bipush (pc := 13) (v := (-2)) de_Tk_learnMerge_13 (by decide) ?_
    exact mv_iret (pc := 15) rfl de_Tk_learnMerge_15 h10
theorem cm_Tk_learnMerge (l : Launch) (D : va_G) (E : Nat → ClassId) (B : Nat) (sa : (Nat → Nat) × Nat × (Nat → Int32)) (N : Nat) (M : mv_M) (v0 : Nat) (r : Int32) (M1 : mv_M) (hJ : jf_Tk_learnMerge N M v0 = some (r, M1)) : mv_Met (xg l D E B sa) yn_Tk_learnMerge cd_Tk_learnMerge 2 (some .int) 2 45 [va_rf (some v0)] M (some (.int r)) M1 :=
  mv_enter (by decide) (Nat.le_of_ble_eq_true rfl) (mv_sub (lv := [(0, va_rf (some v0))]) [0] rfl (tb_Tk_learnMerge_0 l D E B sa M M1 r N M v0 hJ))
/-! ===== PlainLearner.merge()I ===== -/
abbrev kd_PL_merge : mv_Kd := (cd_PL_merge, 1, "PlainLearner", "merge", (some .int), 3, 66)
theorem de_PL_merge_0 : decode cd_PL_merge 0 = .ok (.aload_n 0, 1) := by decide +kernel
theorem de_PL_merge_1 : decode cd_PL_merge 1 = .ok (.getfield 40, 3) := by decide +kernel
theorem de_PL_merge_4 : decode cd_PL_merge 4 = .ok (.invokevirtual 170, 3) := by decide +kernel
theorem de_PL_merge_7 : decode cd_PL_merge 7 = .ok (.ireturn, 1) := by decide +kernel
def jb_PL_merge_0 (N : Nat) (M : mv_M) (v0 : Nat) : Option (Int32 × mv_M) :=
  Option.bind (mj_getR M v0 0 4) fun x1 =>
  Option.bind x1 fun a4 =>
  mj_ob M a4 8 <|
  mj_call (jf_Tk_learnMerge N M a4) fun r4 Mm4 =>
  some (r4, Mm4)
def jf_PL_merge (N : Nat) (M : mv_M) (v0 : Nat) : Option (Int32 × mv_M) := jb_PL_merge_0 N M v0
set_option maxHeartbeats 4000000 in
set_option maxRecDepth 100000 in
theorem tb_PL_merge_0 (l : Launch) (D : va_G) (E : Nat → ClassId) (B : Nat) (sa : (Nat → Nat) × Nat × (Nat → Int32)) (M0 M1 : mv_M) (r : Int32) (N : Nat) (M : mv_M) (v0 : Nat) (hJ : jb_PL_merge_0 N M v0 = some (r, M1)) : mv_G (xg l D E B sa) kd_PL_merge M0 M1 (some (.int r)) M 0 [(0, va_rf (some v0))] [] := by
  unfold jb_PL_merge_0 at hJ
  refine mv_aload_n (pc := 0) (i := 0) de_PL_merge_0 rfl 0 rfl ?_
  refine mv_getR (pc := 1) (f := 4) (kc_0 l D E B sa) (Nat.le_of_ble_eq_true rfl) wt_1_150 de_PL_merge_1 hJ (fun x1 e1 h1 => ?_)
  obtain ⟨a4, ha, h4a⟩ := mj_bindE h1
  subst ha
  obtain ⟨hi4, h4o⟩ := mj_obE h4a
  obtain ⟨r4, Mm4, hz4, h4⟩ := mj_callE h4o
  refine mv_callV (pc := 4) (n := 0) (av := []) (rest := []) de_PL_merge_4 (kc_8 l D E B sa) hi4 (cm_Tk_learnMerge l D E B sa N M a4 _ _ hz4) wt_4_17 wt_4_18 wt_4_19 wt_1_7 wt_4_20 ⟨by decide, by decide, by decide +kernel⟩ rfl ⟨Nat.le_of_ble_eq_true rfl, Nat.le_of_ble_eq_true rfl⟩ (Nat.le_of_ble_eq_true rfl) rfl ?_
  exact mv_iret (pc := 7) rfl de_PL_merge_7 h4
theorem cm_PL_merge (l : Launch) (D : va_G) (E : Nat → ClassId) (B : Nat) (sa : (Nat → Nat) × Nat × (Nat → Int32)) (N : Nat) (M : mv_M) (v0 : Nat) (r : Int32) (M1 : mv_M) (hJ : jf_PL_merge N M v0 = some (r, M1)) : mv_Met (xg l D E B sa) yn_PL_merge cd_PL_merge 1 (some .int) 3 66 [va_rf (some v0)] M (some (.int r)) M1 :=
  mv_enter (by decide) (Nat.le_of_ble_eq_true rfl) (mv_sub (lv := [(0, va_rf (some v0))]) [0] rfl (tb_PL_merge_0 l D E B sa M M1 r N M v0 hJ))
/-! ===== PlainLearner$Tokens.describeMerge(II)I ===== -/
abbrev kd_Tk_describeMerge : mv_Kd := (cd_Tk_describeMerge, 3, "PlainLearner$Tokens", "describeMerge", (some .int), 0, 0)
theorem de_Tk_describeMerge_0 : decode cd_Tk_describeMerge 0 = .ok (.iload_n 1, 1) := by decide +kernel
theorem de_Tk_describeMerge_1 : decode cd_Tk_describeMerge 1 = .ok (.ifCond .lt 11, 3) := by decide +kernel
theorem de_Tk_describeMerge_4 : decode cd_Tk_describeMerge 4 = .ok (.iload_n 1, 1) := by decide +kernel
theorem de_Tk_describeMerge_5 : decode cd_Tk_describeMerge 5 = .ok (.aload_n 0, 1) := by decide +kernel
theorem de_Tk_describeMerge_6 : decode cd_Tk_describeMerge 6 = .ok (.getfield 37, 3) := by decide +kernel
theorem de_Tk_describeMerge_9 : decode cd_Tk_describeMerge 9 = .ok (.if_icmp .lt 5, 3) := by decide +kernel
theorem de_Tk_describeMerge_12 : decode cd_Tk_describeMerge 12 = .ok (.iconst (-1), 1) := by decide +kernel
theorem de_Tk_describeMerge_13 : decode cd_Tk_describeMerge 13 = .ok (.ireturn, 1) := by decide +kernel
theorem de_Tk_describeMerge_14 : decode cd_Tk_describeMerge 14 = .ok (.iload_n 2, 1) := by decide +kernel
theorem de_Tk_describeMerge_15 : decode cd_Tk_describeMerge 15 = .ok (.tableswitch 46 0 2 #[25, 32, 39], 25) := by decide +kernel
theorem de_Tk_describeMerge_40 : decode cd_Tk_describeMerge 40 = .ok (.aload_n 0, 1) := by decide +kernel
theorem de_Tk_describeMerge_41 : decode cd_Tk_describeMerge 41 = .ok (.getfield 15, 3) := by decide +kernel
theorem de_Tk_describeMerge_44 : decode cd_Tk_describeMerge 44 = .ok (.iload_n 1, 1) := by decide +kernel
theorem de_Tk_describeMerge_45 : decode cd_Tk_describeMerge 45 = .ok (.iaload, 1) := by decide +kernel
theorem de_Tk_describeMerge_46 : decode cd_Tk_describeMerge 46 = .ok (.ireturn, 1) := by decide +kernel
theorem de_Tk_describeMerge_47 : decode cd_Tk_describeMerge 47 = .ok (.aload_n 0, 1) := by decide +kernel
theorem de_Tk_describeMerge_48 : decode cd_Tk_describeMerge 48 = .ok (.getfield 18, 3) := by decide +kernel
theorem de_Tk_describeMerge_51 : decode cd_Tk_describeMerge 51 = .ok (.iload_n 1, 1) := by decide +kernel
theorem de_Tk_describeMerge_52 : decode cd_Tk_describeMerge 52 = .ok (.iaload, 1) := by decide +kernel
theorem de_Tk_describeMerge_53 : decode cd_Tk_describeMerge 53 = .ok (.ireturn, 1) := by decide +kernel
theorem de_Tk_describeMerge_54 : decode cd_Tk_describeMerge 54 = .ok (.aload_n 0, 1) := by decide +kernel
theorem de_Tk_describeMerge_55 : decode cd_Tk_describeMerge 55 = .ok (.getfield 21, 3) := by decide +kernel
theorem de_Tk_describeMerge_58 : decode cd_Tk_describeMerge 58 = .ok (.iload_n 1, 1) := by decide +kernel
theorem de_Tk_describeMerge_59 : decode cd_Tk_describeMerge 59 = .ok (.iaload, 1) := by decide +kernel
theorem de_Tk_describeMerge_60 : decode cd_Tk_describeMerge 60 = .ok (.ireturn, 1) := by decide +kernel
theorem de_Tk_describeMerge_61 : decode cd_Tk_describeMerge 61 = .ok (.iconst (-1), 1) := by decide +kernel
theorem de_Tk_describeMerge_62 : decode cd_Tk_describeMerge 62 = .ok (.ireturn, 1) := by decide +kernel
def jb_Tk_describeMerge_12 (N : Nat) (M : mv_M) : Option (Int32 × mv_M) :=
  some ((-1), M)
def jb_Tk_describeMerge_0 (N : Nat) (M : mv_M) (v0 : Nat) (v1 : Int32) (v2 : Int32) : Option (Int32 × mv_M) :=
  if v1 < 0 then (jb_Tk_describeMerge_12 N M) else
  Option.bind (mj_getI M v0 8 6) fun x6 =>
  if v1 < x6 then (if v2 = 0 then (Option.bind (mj_getR M v0 8 1) fun x41 =>
  Option.bind x41 fun a45 =>
  Option.bind (mj_ild M a45 0 v1) fun x45 =>
  some (x45, M)) else
  if v2 = 1 then (Option.bind (mj_getR M v0 8 2) fun x48 =>
  Option.bind x48 fun a52 =>
  Option.bind (mj_ild M a52 0 v1) fun x52 =>
  some (x52, M)) else
  if v2 = 2 then (Option.bind (mj_getR M v0 8 3) fun x55 =>
  Option.bind x55 fun a59 =>
  Option.bind (mj_ild M a59 0 v1) fun x59 =>
  some (x59, M)) else
  some ((-1), M)) else
  jb_Tk_describeMerge_12 N M
def jf_Tk_describeMerge (N : Nat) (M : mv_M) (v0 : Nat) (v1 : Int32) (v2 : Int32) : Option (Int32 × mv_M) := jb_Tk_describeMerge_0 N M v0 v1 v2
set_option maxHeartbeats 4000000 in
set_option maxRecDepth 100000 in
theorem tb_Tk_describeMerge_12 (l : Launch) (D : va_G) (E : Nat → ClassId) (B : Nat) (sa : (Nat → Nat) × Nat × (Nat → Int32)) (M0 M1 : mv_M) (r : Int32) (N : Nat) (M : mv_M) (hJ : jb_Tk_describeMerge_12 N M = some (r, M1)) : mv_G (xg l D E B sa) kd_Tk_describeMerge M0 M1 (some (.int r)) M 12 [] [] := by
  unfold jb_Tk_describeMerge_12 at hJ
  refine mv_iconst (pc := 12) (v := (-1)) de_Tk_describeMerge_12 (by decide) ?_
  exact mv_iret (pc := 13) rfl de_Tk_describeMerge_13 hJ
set_option maxHeartbeats 4000000 in
set_option maxRecDepth 100000 in
theorem tb_Tk_describeMerge_0 (l : Launch) (D : va_G) (E : Nat → ClassId) (B : Nat) (sa : (Nat → Nat) × Nat × (Nat → Int32)) (M0 M1 : mv_M) (r : Int32) (N : Nat) (M : mv_M) (v0 : Nat) (v1 : Int32) (v2 : Int32) (hJ : jb_Tk_describeMerge_0 N M v0 v1 v2 = some (r, M1)) : mv_G (xg l D E B sa) kd_Tk_describeMerge M0 M1 (some (.int r)) M 0 [(0, va_rf (some v0)), (1, .int v1), (2, .int v2)] [] := by
  unfold jb_Tk_describeMerge_0 at hJ
  refine mv_iload_n (pc := 0) (i := 1) de_Tk_describeMerge_0 rfl 1 rfl ?_
  refine mv_if_lt (pc := 1) (tgt := 12) de_Tk_describeMerge_1 (by decide) hJ (fun hc1 h1 => ?_) (fun hc1 h1 => ?_)
  · exact mv_sub [] rfl (tb_Tk_describeMerge_12 l D E B sa M0 M1 r N M h1)
  · refine mv_iload_n (pc := 4) (i := 1) de_Tk_describeMerge_4 rfl 1 rfl ?_
    refine mv_aload_n (pc := 5) (i := 0) de_Tk_describeMerge_5 rfl 0 rfl ?_
    refine mv_getI (pc := 6) (f := 6) (kc_8 l D E B sa) (Nat.le_of_ble_eq_true rfl) wt_1_129 de_Tk_describeMerge_6 h1 (fun x6 e6 h6 => ?_)
    refine mv_icmp_lt (pc := 9) (tgt := 14) de_Tk_describeMerge_9 (by decide) h6 (fun hc9 h9 => ?_) (fun hc9 h9 => ?_)
    · refine mv_iload_n (pc := 14) (i := 2) de_Tk_describeMerge_14 rfl 2 rfl ?_
      by_cases hs15_0 : v2 = 0
      · rw [if_pos hs15_0] at h9
        refine mv_tin (pc := 15) (tgt := 40) (off := 25) 0 de_Tk_describeMerge_15 hs15_0 (by decide) (by decide) ?_
        refine mv_aload_n (pc := 40) (i := 0) de_Tk_describeMerge_40 rfl 0 rfl ?_
        refine mv_getR (pc := 41) (f := 1) (kc_8 l D E B sa) (Nat.le_of_ble_eq_true rfl) wt_1_123 de_Tk_describeMerge_41 h9 (fun x41 e41 h41 => ?_)
        refine mv_iload_n (pc := 44) (i := 1) de_Tk_describeMerge_44 rfl 1 rfl ?_
        obtain ⟨a45, ha, h45a⟩ := mj_bindE h41
        subst ha
        refine mv_iald (pc := 45) (t := 0) rfl de_Tk_describeMerge_45 h45a (fun x45 e45 h45 => ?_)
        exact mv_iret (pc := 46) rfl de_Tk_describeMerge_46 h45
      rw [if_neg hs15_0] at h9
      by_cases hs15_1 : v2 = 1
      · rw [if_pos hs15_1] at h9
        refine mv_tin (pc := 15) (tgt := 47) (off := 32) 1 de_Tk_describeMerge_15 hs15_1 (by decide) (by decide) ?_
        refine mv_aload_n (pc := 47) (i := 0) de_Tk_describeMerge_47 rfl 0 rfl ?_
        refine mv_getR (pc := 48) (f := 2) (kc_8 l D E B sa) (Nat.le_of_ble_eq_true rfl) wt_1_124 de_Tk_describeMerge_48 h9 (fun x48 e48 h48 => ?_)
        refine mv_iload_n (pc := 51) (i := 1) de_Tk_describeMerge_51 rfl 1 rfl ?_
        obtain ⟨a52, ha, h52a⟩ := mj_bindE h48
        subst ha
        refine mv_iald (pc := 52) (t := 0) rfl de_Tk_describeMerge_52 h52a (fun x52 e52 h52 => ?_)
        exact mv_iret (pc := 53) rfl de_Tk_describeMerge_53 h52
      rw [if_neg hs15_1] at h9
      by_cases hs15_2 : v2 = 2
      · rw [if_pos hs15_2] at h9
        refine mv_tin (pc := 15) (tgt := 54) (off := 39) 2 de_Tk_describeMerge_15 hs15_2 (by decide) (by decide) ?_
        refine mv_aload_n (pc := 54) (i := 0) de_Tk_describeMerge_54 rfl 0 rfl ?_
        refine mv_getR (pc := 55) (f := 3) (kc_8 l D E B sa) (Nat.le_of_ble_eq_true rfl) wt_1_125 de_Tk_describeMerge_55 h9 (fun x55 e55 h55 => ?_)
        refine mv_iload_n (pc := 58) (i := 1) de_Tk_describeMerge_58 rfl 1 rfl ?_
        obtain ⟨a59, ha, h59a⟩ := mj_bindE h55
        subst ha
        refine mv_iald (pc := 59) (t := 0) rfl de_Tk_describeMerge_59 h59a (fun x59 e59 h59 => ?_)
        exact mv_iret (pc := 60) rfl de_Tk_describeMerge_60 h59
      rw [if_neg hs15_2] at h9
      have qhs15_0 := lv_neT (a := 0) hs15_0 (by decide)
      have qhs15_1 := lv_neT (a := 1) hs15_1 (by decide)
      have qhs15_2 := lv_neT (a := 2) hs15_2 (by decide)
      refine mv_tout (pc := 15) (tgt := 61) de_Tk_describeMerge_15 (by omega) (by decide) ?_
      refine mv_iconst (pc := 61) (v := (-1)) de_Tk_describeMerge_61 (by decide) ?_
      exact mv_iret (pc := 62) rfl de_Tk_describeMerge_62 h9
    · exact mv_sub [] rfl (tb_Tk_describeMerge_12 l D E B sa M0 M1 r N M h9)
theorem cm_Tk_describeMerge (l : Launch) (D : va_G) (E : Nat → ClassId) (B : Nat) (sa : (Nat → Nat) × Nat × (Nat → Int32)) (N : Nat) (M : mv_M) (v0 : Nat) (v1 : Int32) (v2 : Int32) (r : Int32) (M1 : mv_M) (hJ : jf_Tk_describeMerge N M v0 v1 v2 = some (r, M1)) : mv_Met (xg l D E B sa) yn_Tk_describeMerge cd_Tk_describeMerge 3 (some .int) 0 0 [va_rf (some v0), .int v1, .int v2] M (some (.int r)) M1 :=
  mv_enter (by decide) (Nat.le_of_ble_eq_true rfl) (mv_sub (lv := [(0, va_rf (some v0)), (1, .int v1), (2, .int v2)]) [0, 1, 2] rfl (tb_Tk_describeMerge_0 l D E B sa M M1 r N M v0 v1 v2 hJ))
/-! ===== PlainLearner.merged(II)I ===== -/
abbrev kd_PL_merged : mv_Kd := (cd_PL_merged, 3, "PlainLearner", "merged", (some .int), 1, 22)
theorem de_PL_merged_0 : decode cd_PL_merged 0 = .ok (.aload_n 0, 1) := by decide +kernel
theorem de_PL_merged_1 : decode cd_PL_merged 1 = .ok (.getfield 40, 3) := by decide +kernel
theorem de_PL_merged_4 : decode cd_PL_merged 4 = .ok (.iload_n 1, 1) := by decide +kernel
theorem de_PL_merged_5 : decode cd_PL_merged 5 = .ok (.iload_n 2, 1) := by decide +kernel
theorem de_PL_merged_6 : decode cd_PL_merged 6 = .ok (.invokevirtual 173, 3) := by decide +kernel
theorem de_PL_merged_9 : decode cd_PL_merged 9 = .ok (.ireturn, 1) := by decide +kernel
def jb_PL_merged_0 (N : Nat) (M : mv_M) (v0 : Nat) (v1 : Int32) (v2 : Int32) : Option (Int32 × mv_M) :=
  Option.bind (mj_getR M v0 0 4) fun x1 =>
  Option.bind x1 fun a6 =>
  mj_ob M a6 8 <|
  mj_call (jf_Tk_describeMerge N M a6 v1 v2) fun r6 Mm6 =>
  some (r6, Mm6)
def jf_PL_merged (N : Nat) (M : mv_M) (v0 : Nat) (v1 : Int32) (v2 : Int32) : Option (Int32 × mv_M) := jb_PL_merged_0 N M v0 v1 v2
set_option maxHeartbeats 4000000 in
set_option maxRecDepth 100000 in
theorem tb_PL_merged_0 (l : Launch) (D : va_G) (E : Nat → ClassId) (B : Nat) (sa : (Nat → Nat) × Nat × (Nat → Int32)) (M0 M1 : mv_M) (r : Int32) (N : Nat) (M : mv_M) (v0 : Nat) (v1 : Int32) (v2 : Int32) (hJ : jb_PL_merged_0 N M v0 v1 v2 = some (r, M1)) : mv_G (xg l D E B sa) kd_PL_merged M0 M1 (some (.int r)) M 0 [(0, va_rf (some v0)), (1, .int v1), (2, .int v2)] [] := by
  unfold jb_PL_merged_0 at hJ
  refine mv_aload_n (pc := 0) (i := 0) de_PL_merged_0 rfl 0 rfl ?_
  refine mv_getR (pc := 1) (f := 4) (kc_0 l D E B sa) (Nat.le_of_ble_eq_true rfl) wt_1_150 de_PL_merged_1 hJ (fun x1 e1 h1 => ?_)
  refine mv_iload_n (pc := 4) (i := 1) de_PL_merged_4 rfl 1 rfl ?_
  refine mv_iload_n (pc := 5) (i := 2) de_PL_merged_5 rfl 2 rfl ?_
  obtain ⟨a6, ha, h6a⟩ := mj_bindE h1
  subst ha
  obtain ⟨hi6, h6o⟩ := mj_obE h6a
  obtain ⟨r6, Mm6, hz6, h6⟩ := mj_callE h6o
  refine mv_callV (pc := 6) (n := 2) (av := [.int v1, .int v2]) (rest := []) de_PL_merged_6 (kc_8 l D E B sa) hi6 (cm_Tk_describeMerge l D E B sa N M a6 v1 v2 _ _ hz6) wt_4_45 wt_4_46 wt_4_47 wt_1_7 wt_4_48 ⟨by decide, by decide, by decide +kernel⟩ rfl ⟨Nat.le_of_ble_eq_true rfl, Nat.le_of_ble_eq_true rfl⟩ (Nat.le_of_ble_eq_true rfl) rfl ?_
  exact mv_iret (pc := 9) rfl de_PL_merged_9 h6
theorem cm_PL_merged (l : Launch) (D : va_G) (E : Nat → ClassId) (B : Nat) (sa : (Nat → Nat) × Nat × (Nat → Int32)) (N : Nat) (M : mv_M) (v0 : Nat) (v1 : Int32) (v2 : Int32) (r : Int32) (M1 : mv_M) (hJ : jf_PL_merged N M v0 v1 v2 = some (r, M1)) : mv_Met (xg l D E B sa) yn_PL_merged cd_PL_merged 3 (some .int) 1 22 [va_rf (some v0), .int v1, .int v2] M (some (.int r)) M1 :=
  mv_enter (by decide) (Nat.le_of_ble_eq_true rfl) (mv_sub (lv := [(0, va_rf (some v0)), (1, .int v1), (2, .int v2)]) [0, 1, 2] rfl (tb_PL_merged_0 l D E B sa M M1 r N M v0 v1 v2 hJ))
/-! ===== PlainLearner$Tokens.doAllMerges()I ===== -/
abbrev kd_Tk_doAllMerges : mv_Kd := (cd_Tk_doAllMerges, 2, "PlainLearner$Tokens", "doAllMerges", (some .int), 1, 24)
theorem de_Tk_doAllMerges_0 : decode cd_Tk_doAllMerges 0 = .ok (.iconst 0, 1) := by decide +kernel
theorem de_Tk_doAllMerges_1 : decode cd_Tk_doAllMerges 1 = .ok (.istore_n 1, 1) := by decide +kernel
theorem de_Tk_doAllMerges_2 : decode cd_Tk_doAllMerges 2 = .ok (.iload_n 1, 1) := by decide +kernel
theorem de_Tk_doAllMerges_3 : decode cd_Tk_doAllMerges 3 = .ok (.aload_n 0, 1) := by decide +kernel
theorem de_Tk_doAllMerges_4 : decode cd_Tk_doAllMerges 4 = .ok (.getfield 37, 3) := by decide +kernel
theorem de_Tk_doAllMerges_7 : decode cd_Tk_doAllMerges 7 = .ok (.if_icmp .ge 14, 3) := by decide +kernel
theorem de_Tk_doAllMerges_10 : decode cd_Tk_doAllMerges 10 = .ok (.aload_n 0, 1) := by decide +kernel
theorem de_Tk_doAllMerges_11 : decode cd_Tk_doAllMerges 11 = .ok (.iload_n 1, 1) := by decide +kernel
theorem de_Tk_doAllMerges_12 : decode cd_Tk_doAllMerges 12 = .ok (.invokevirtual 51, 3) := by decide +kernel
theorem de_Tk_doAllMerges_15 : decode cd_Tk_doAllMerges 15 = .ok (.iinc 1 1, 3) := by decide +kernel
theorem de_Tk_doAllMerges_18 : decode cd_Tk_doAllMerges 18 = .ok (.goto (-16), 3) := by decide +kernel
theorem de_Tk_doAllMerges_21 : decode cd_Tk_doAllMerges 21 = .ok (.aload_n 0, 1) := by decide +kernel
theorem de_Tk_doAllMerges_22 : decode cd_Tk_doAllMerges 22 = .ok (.getfield 31, 3) := by decide +kernel
theorem de_Tk_doAllMerges_25 : decode cd_Tk_doAllMerges 25 = .ok (.ireturn, 1) := by decide +kernel
def jb_Tk_doAllMerges_2 (N : Nat) : Nat → mv_M → Nat → Int32 → Option (Int32 × mv_M)
  | 0, _, _, _ => none
  | n + 1, M, v0, v1 =>
    Option.bind (mj_getI M v0 8 6) fun x4 =>
    if x4 ≤ v1 then (Option.bind (mj_getI M v0 8 5) fun x22 =>
    some (x22, M)) else
    mj_ob M v0 8 <|
    mj_call (jf_Tk_doMerge N M v0 v1) fun r12 Mm12 =>
    jb_Tk_doAllMerges_2 N n Mm12 v0 (v1 + 1)
def jb_Tk_doAllMerges_0 (N : Nat) (M : mv_M) (v0 : Nat) : Option (Int32 × mv_M) :=
  jb_Tk_doAllMerges_2 N N M v0 0
def jf_Tk_doAllMerges (N : Nat) (M : mv_M) (v0 : Nat) : Option (Int32 × mv_M) := jb_Tk_doAllMerges_0 N M v0
set_option maxHeartbeats 4000000 in
set_option maxRecDepth 100000 in
theorem tb_Tk_doAllMerges_2 (l : Launch) (D : va_G) (E : Nat → ClassId) (B : Nat) (sa : (Nat → Nat) × Nat × (Nat → Int32)) (M0 M1 : mv_M) (r : Int32) (N : Nat) : ∀ (n : Nat) (M : mv_M) (v0 : Nat) (v1 : Int32) (hJ : jb_Tk_doAllMerges_2 N n M v0 v1 = some (r, M1)), mv_G (xg l D E B sa) kd_Tk_doAllMerges M0 M1 (some (.int r)) M 2 [(0, va_rf (some v0)), (1, .int v1)] [] := by
  intro n
  induction n with
  | zero => intro M v0 v1 hJ; cases hJ
  | succ n ih =>
    intro M v0 v1 hJ
    rw [jb_Tk_doAllMerges_2] at hJ
    refine mv_iload_n (pc := 2) (i := 1) de_Tk_doAllMerges_2 rfl 1 rfl ?_
    refine mv_aload_n (pc := 3) (i := 0) de_Tk_doAllMerges_3 rfl 0 rfl ?_
    refine mv_getI (pc := 4) (f := 6) (kc_8 l D E B sa) (Nat.le_of_ble_eq_true rfl) wt_1_129 de_Tk_doAllMerges_4 hJ (fun x4 e4 h4 => ?_)
    refine mv_icmp_ge (pc := 7) (tgt := 21) de_Tk_doAllMerges_7 (by decide) h4 (fun hc7 h7 => ?_) (fun hc7 h7 => ?_)
    · refine mv_aload_n (pc := 21) (i := 0) de_Tk_doAllMerges_21 rfl 0 rfl ?_
      refine mv_getI (pc := 22) (f := 5) (kc_8 l D E B sa) (Nat.le_of_ble_eq_true rfl) wt_1_127 de_Tk_doAllMerges_22 h7 (fun x22 e22 h22 => ?_)
      exact mv_iret (pc := 25) rfl de_Tk_doAllMerges_25 h22
    · refine mv_aload_n (pc := 10) (i := 0) de_Tk_doAllMerges_10 rfl 0 rfl ?_
      refine mv_iload_n (pc := 11) (i := 1) de_Tk_doAllMerges_11 rfl 1 rfl ?_
      obtain ⟨hi12, h12o⟩ := mj_obE h7
      obtain ⟨r12, Mm12, hz12, h12⟩ := mj_callE h12o
      refine mv_callV (pc := 12) (n := 1) (av := [.int v1]) (rest := []) de_Tk_doAllMerges_12 (kc_8 l D E B sa) hi12 (cm_Tk_doMerge l D E B sa N M v0 v1 _ _ hz12) wt_4_37 wt_4_39 wp_25 wt_1_7 wt_4_40 ⟨by decide, by decide, by decide +kernel⟩ rfl ⟨Nat.le_of_ble_eq_true rfl, Nat.le_of_ble_eq_true rfl⟩ (Nat.le_of_ble_eq_true rfl) rfl ?_
      refine mv_iinc (pc := 15) (v := (v1 + 1)) (lv' := [(1, .int (v1 + 1)), (0, va_rf (some v0))]) de_Tk_doAllMerges_15 1 rfl rfl (Nat.le_of_ble_eq_true rfl) rfl ?_
      refine mv_goto (pc := 18) (tgt := 2) de_Tk_doAllMerges_18 (by decide) ?_
      exact mv_sub [1, 0] rfl (ih Mm12 v0 (v1 + 1) h12)
set_option maxHeartbeats 4000000 in
set_option maxRecDepth 100000 in
theorem tb_Tk_doAllMerges_0 (l : Launch) (D : va_G) (E : Nat → ClassId) (B : Nat) (sa : (Nat → Nat) × Nat × (Nat → Int32)) (M0 M1 : mv_M) (r : Int32) (N : Nat) (M : mv_M) (v0 : Nat) (hJ : jb_Tk_doAllMerges_0 N M v0 = some (r, M1)) : mv_G (xg l D E B sa) kd_Tk_doAllMerges M0 M1 (some (.int r)) M 0 [(0, va_rf (some v0))] [] := by
  unfold jb_Tk_doAllMerges_0 at hJ
  refine mv_iconst (pc := 0) (v := 0) de_Tk_doAllMerges_0 (by decide) ?_
  refine mv_istore_n (pc := 1) (i := 1) (lv' := [(1, .int 0), (0, va_rf (some v0))]) de_Tk_doAllMerges_1 rfl (Nat.le_of_ble_eq_true rfl) rfl ?_
  exact mv_sub [1, 0] rfl (tb_Tk_doAllMerges_2 l D E B sa M0 M1 r N N M v0 0 hJ)
theorem cm_Tk_doAllMerges (l : Launch) (D : va_G) (E : Nat → ClassId) (B : Nat) (sa : (Nat → Nat) × Nat × (Nat → Int32)) (N : Nat) (M : mv_M) (v0 : Nat) (r : Int32) (M1 : mv_M) (hJ : jf_Tk_doAllMerges N M v0 = some (r, M1)) : mv_Met (xg l D E B sa) yn_Tk_doAllMerges cd_Tk_doAllMerges 2 (some .int) 1 24 [va_rf (some v0)] M (some (.int r)) M1 :=
  mv_enter (by decide) (Nat.le_of_ble_eq_true rfl) (mv_sub (lv := [(0, va_rf (some v0))]) [0] rfl (tb_Tk_doAllMerges_0 l D E B sa M M1 r N M v0 hJ))
/-! ===== PlainLearner.encode()I ===== -/
abbrev kd_PL_encode : mv_Kd := (cd_PL_encode, 1, "PlainLearner", "encode", (some .int), 2, 45)
theorem de_PL_encode_0 : decode cd_PL_encode 0 = .ok (.aload_n 0, 1) := by decide +kernel
theorem de_PL_encode_1 : decode cd_PL_encode 1 = .ok (.getfield 40, 3) := by decide +kernel
theorem de_PL_encode_4 : decode cd_PL_encode 4 = .ok (.invokevirtual 176, 3) := by decide +kernel
theorem de_PL_encode_7 : decode cd_PL_encode 7 = .ok (.ireturn, 1) := by decide +kernel
def jb_PL_encode_0 (N : Nat) (M : mv_M) (v0 : Nat) : Option (Int32 × mv_M) :=
  Option.bind (mj_getR M v0 0 4) fun x1 =>
  Option.bind x1 fun a4 =>
  mj_ob M a4 8 <|
  mj_call (jf_Tk_doAllMerges N M a4) fun r4 Mm4 =>
  some (r4, Mm4)
def jf_PL_encode (N : Nat) (M : mv_M) (v0 : Nat) : Option (Int32 × mv_M) := jb_PL_encode_0 N M v0
set_option maxHeartbeats 4000000 in
set_option maxRecDepth 100000 in
theorem tb_PL_encode_0 (l : Launch) (D : va_G) (E : Nat → ClassId) (B : Nat) (sa : (Nat → Nat) × Nat × (Nat → Int32)) (M0 M1 : mv_M) (r : Int32) (N : Nat) (M : mv_M) (v0 : Nat) (hJ : jb_PL_encode_0 N M v0 = some (r, M1)) : mv_G (xg l D E B sa) kd_PL_encode M0 M1 (some (.int r)) M 0 [(0, va_rf (some v0))] [] := by
  unfold jb_PL_encode_0 at hJ
  refine mv_aload_n (pc := 0) (i := 0) de_PL_encode_0 rfl 0 rfl ?_
  refine mv_getR (pc := 1) (f := 4) (kc_0 l D E B sa) (Nat.le_of_ble_eq_true rfl) wt_1_150 de_PL_encode_1 hJ (fun x1 e1 h1 => ?_)
  obtain ⟨a4, ha, h4a⟩ := mj_bindE h1
  subst ha
  obtain ⟨hi4, h4o⟩ := mj_obE h4a
  obtain ⟨r4, Mm4, hz4, h4⟩ := mj_callE h4o
  refine mv_callV (pc := 4) (n := 0) (av := []) (rest := []) de_PL_encode_4 (kc_8 l D E B sa) hi4 (cm_Tk_doAllMerges l D E B sa N M a4 _ _ hz4) wt_4_53 wt_4_54 wt_4_55 wt_1_7 wt_4_56 ⟨by decide, by decide, by decide +kernel⟩ rfl ⟨Nat.le_of_ble_eq_true rfl, Nat.le_of_ble_eq_true rfl⟩ (Nat.le_of_ble_eq_true rfl) rfl ?_
  exact mv_iret (pc := 7) rfl de_PL_encode_7 h4
theorem cm_PL_encode (l : Launch) (D : va_G) (E : Nat → ClassId) (B : Nat) (sa : (Nat → Nat) × Nat × (Nat → Int32)) (N : Nat) (M : mv_M) (v0 : Nat) (r : Int32) (M1 : mv_M) (hJ : jf_PL_encode N M v0 = some (r, M1)) : mv_Met (xg l D E B sa) yn_PL_encode cd_PL_encode 1 (some .int) 2 45 [va_rf (some v0)] M (some (.int r)) M1 :=
  mv_enter (by decide) (Nat.le_of_ble_eq_true rfl) (mv_sub (lv := [(0, va_rf (some v0))]) [0] rfl (tb_PL_encode_0 l D E B sa M M1 r N M v0 hJ))
/-! ===== PlainLearner$Tokens.tokenAt(I)I ===== -/
abbrev kd_Tk_tokenAt : mv_Kd := (cd_Tk_tokenAt, 2, "PlainLearner$Tokens", "tokenAt", (some .int), 0, 0)
theorem de_Tk_tokenAt_0 : decode cd_Tk_tokenAt 0 = .ok (.iload_n 1, 1) := by decide +kernel
theorem de_Tk_tokenAt_1 : decode cd_Tk_tokenAt 1 = .ok (.ifCond .lt 11, 3) := by decide +kernel
theorem de_Tk_tokenAt_4 : decode cd_Tk_tokenAt 4 = .ok (.iload_n 1, 1) := by decide +kernel
theorem de_Tk_tokenAt_5 : decode cd_Tk_tokenAt 5 = .ok (.aload_n 0, 1) := by decide +kernel
theorem de_Tk_tokenAt_6 : decode cd_Tk_tokenAt 6 = .ok (.getfield 31, 3) := by decide +kernel
theorem de_Tk_tokenAt_9 : decode cd_Tk_tokenAt 9 = .ok (.if_icmp .lt 8, 3) := by decide +kernel
theorem de_Tk_tokenAt_12 : decode cd_Tk_tokenAt 12 = .ok (.bipush (-2), 2) := by decide +kernel
theorem de_Tk_tokenAt_14 : decode cd_Tk_tokenAt 14 = .ok (.goto 9, 3) := by decide +kernel
theorem de_Tk_tokenAt_17 : decode cd_Tk_tokenAt 17 = .ok (.aload_n 0, 1) := by decide +kernel
theorem de_Tk_tokenAt_18 : decode cd_Tk_tokenAt 18 = .ok (.getfield 11, 3) := by decide +kernel
theorem de_Tk_tokenAt_21 : decode cd_Tk_tokenAt 21 = .ok (.iload_n 1, 1) := by decide +kernel
theorem de_Tk_tokenAt_22 : decode cd_Tk_tokenAt 22 = .ok (.iaload, 1) := by decide +kernel
theorem de_Tk_tokenAt_23 : decode cd_Tk_tokenAt 23 = .ok (.ireturn, 1) := by decide +kernel
def jb_Tk_tokenAt_23 (N : Nat) (M : mv_M) (s0 : Int32) : Option (Int32 × mv_M) :=
  some (s0, M)
def jb_Tk_tokenAt_12 (N : Nat) (M : mv_M) : Option (Int32 × mv_M) :=
  jb_Tk_tokenAt_23 N M (-2)
def jb_Tk_tokenAt_0 (N : Nat) (M : mv_M) (v0 : Nat) (v1 : Int32) : Option (Int32 × mv_M) :=
  if v1 < 0 then (jb_Tk_tokenAt_12 N M) else
  Option.bind (mj_getI M v0 8 5) fun x6 =>
  if v1 < x6 then (Option.bind (mj_getR M v0 8 0) fun x18 =>
  Option.bind x18 fun a22 =>
  Option.bind (mj_ild M a22 0 v1) fun x22 =>
  jb_Tk_tokenAt_23 N M x22) else
  jb_Tk_tokenAt_12 N M
def jf_Tk_tokenAt (N : Nat) (M : mv_M) (v0 : Nat) (v1 : Int32) : Option (Int32 × mv_M) := jb_Tk_tokenAt_0 N M v0 v1
set_option maxHeartbeats 4000000 in
set_option maxRecDepth 100000 in
theorem tb_Tk_tokenAt_23 (l : Launch) (D : va_G) (E : Nat → ClassId) (B : Nat) (sa : (Nat → Nat) × Nat × (Nat → Int32)) (M0 M1 : mv_M) (r : Int32) (N : Nat) (M : mv_M) (s0 : Int32) (hJ : jb_Tk_tokenAt_23 N M s0 = some (r, M1)) : mv_G (xg l D E B sa) kd_Tk_tokenAt M0 M1 (some (.int r)) M 23 [] [.int s0] := by
  unfold jb_Tk_tokenAt_23 at hJ
  exact mv_iret (pc := 23) rfl de_Tk_tokenAt_23 hJ
set_option maxHeartbeats 4000000 in
set_option maxRecDepth 100000 in
theorem tb_Tk_tokenAt_12 (l : Launch) (D : va_G) (E : Nat → ClassId) (B : Nat) (sa : (Nat → Nat) × Nat × (Nat → Int32)) (M0 M1 : mv_M) (r : Int32) (N : Nat) (M : mv_M) (hJ : jb_Tk_tokenAt_12 N M = some (r, M1)) : mv_G (xg l D E B sa) kd_Tk_tokenAt M0 M1 (some (.int r)) M 12 [] [] := by
  unfold jb_Tk_tokenAt_12 at hJ
  refine mv_bipush (pc := 12) (v := (-2)) de_Tk_tokenAt_12 (by decide) ?_
  refine mv_goto (pc := 14) (tgt := 23) de_Tk_tokenAt_14 (by decide) ?_
  exact mv_sub [] rfl (tb_Tk_tokenAt_23 l D E B sa M0 M1 r N M (-2) hJ)
set_option maxHeartbeats 4000000 in
set_option maxRecDepth 100000 in
theorem tb_Tk_tokenAt_0 (l : Launch) (D : va_G) (E : Nat → ClassId) (B : Nat) (sa : (Nat → Nat) × Nat × (Nat → Int32)) (M0 M1 : mv_M) (r : Int32) (N : Nat) (M : mv_M) (v0 : Nat) (v1 : Int32) (hJ : jb_Tk_tokenAt_0 N M v0 v1 = some (r, M1)) : mv_G (xg l D E B sa) kd_Tk_tokenAt M0 M1 (some (.int r)) M 0 [(0, va_rf (some v0)), (1, .int v1)] [] := by
  unfold jb_Tk_tokenAt_0 at hJ
  refine mv_iload_n (pc := 0) (i := 1) de_Tk_tokenAt_0 rfl 1 rfl ?_
  refine mv_if_lt (pc := 1) (tgt := 12) de_Tk_tokenAt_1 (by decide) hJ (fun hc1 h1 => ?_) (fun hc1 h1 => ?_)
  · exact mv_sub [] rfl (tb_Tk_tokenAt_12 l D E B sa M0 M1 r N M h1)
  · refine mv_iload_n (pc := 4) (i := 1) de_Tk_tokenAt_4 rfl 1 rfl ?_
    refine mv_aload_n (pc := 5) (i := 0) de_Tk_tokenAt_5 rfl 0 rfl ?_
    refine mv_getI (pc := 6) (f := 5) (kc_8 l D E B sa) (Nat.le_of_ble_eq_true rfl) wt_1_127 de_Tk_tokenAt_6 h1 (fun x6 e6 h6 => ?_)
    refine mv_icmp_lt (pc := 9) (tgt := 17) de_Tk_tokenAt_9 (by decide) h6 (fun hc9 h9 => ?_) (fun hc9 h9 => ?_)
    · refine mv_aload_n (pc := 17) (i := 0) de_Tk_tokenAt_17 rfl 0 rfl ?_
      refine mv_getR (pc := 18) (f := 0) (kc_8 l D E B sa) (Nat.le_of_ble_eq_true rfl) wt_1_122 de_Tk_tokenAt_18 h9 (fun x18 e18 h18 => ?_)
      refine mv_iload_n (pc := 21) (i := 1) de_Tk_tokenAt_21 rfl 1 rfl ?_
      obtain ⟨a22, ha, h22a⟩ := mj_bindE h18
      subst ha
      refine mv_iald (pc := 22) (t := 0) rfl de_Tk_tokenAt_22 h22a (fun x22 e22 h22 => ?_)
      exact mv_sub [] rfl (tb_Tk_tokenAt_23 l D E B sa M0 M1 r N M x22 h22)
    · exact mv_sub [] rfl (tb_Tk_tokenAt_12 l D E B sa M0 M1 r N M h9)
theorem cm_Tk_tokenAt (l : Launch) (D : va_G) (E : Nat → ClassId) (B : Nat) (sa : (Nat → Nat) × Nat × (Nat → Int32)) (N : Nat) (M : mv_M) (v0 : Nat) (v1 : Int32) (r : Int32) (M1 : mv_M) (hJ : jf_Tk_tokenAt N M v0 v1 = some (r, M1)) : mv_Met (xg l D E B sa) yn_Tk_tokenAt cd_Tk_tokenAt 2 (some .int) 0 0 [va_rf (some v0), .int v1] M (some (.int r)) M1 :=
  mv_enter (by decide) (Nat.le_of_ble_eq_true rfl) (mv_sub (lv := [(0, va_rf (some v0)), (1, .int v1)]) [0, 1] rfl (tb_Tk_tokenAt_0 l D E B sa M M1 r N M v0 v1 hJ))
/-! ===== PlainLearner.token(I)I ===== -/
abbrev kd_PL_token : mv_Kd := (cd_PL_token, 2, "PlainLearner", "token", (some .int), 1, 21)
theorem de_PL_token_0 : decode cd_PL_token 0 = .ok (.aload_n 0, 1) := by decide +kernel
theorem de_PL_token_1 : decode cd_PL_token 1 = .ok (.getfield 40, 3) := by decide +kernel
theorem de_PL_token_4 : decode cd_PL_token 4 = .ok (.iload_n 1, 1) := by decide +kernel
theorem de_PL_token_5 : decode cd_PL_token 5 = .ok (.invokevirtual 179, 3) := by decide +kernel
theorem de_PL_token_8 : decode cd_PL_token 8 = .ok (.ireturn, 1) := by decide +kernel
def jb_PL_token_0 (N : Nat) (M : mv_M) (v0 : Nat) (v1 : Int32) : Option (Int32 × mv_M) :=
  Option.bind (mj_getR M v0 0 4) fun x1 =>
  Option.bind x1 fun a5 =>
  mj_ob M a5 8 <|
  mj_call (jf_Tk_tokenAt N M a5 v1) fun r5 Mm5 =>
  some (r5, Mm5)
def jf_PL_token (N : Nat) (M : mv_M) (v0 : Nat) (v1 : Int32) : Option (Int32 × mv_M) := jb_PL_token_0 N M v0 v1
set_option maxHeartbeats 4000000 in
set_option maxRecDepth 100000 in
theorem tb_PL_token_0 (l : Launch) (D : va_G) (E : Nat → ClassId) (B : Nat) (sa : (Nat → Nat) × Nat × (Nat → Int32)) (M0 M1 : mv_M) (r : Int32) (N : Nat) (M : mv_M) (v0 : Nat) (v1 : Int32) (hJ : jb_PL_token_0 N M v0 v1 = some (r, M1)) : mv_G (xg l D E B sa) kd_PL_token M0 M1 (some (.int r)) M 0 [(0, va_rf (some v0)), (1, .int v1)] [] := by
  unfold jb_PL_token_0 at hJ
  refine mv_aload_n (pc := 0) (i := 0) de_PL_token_0 rfl 0 rfl ?_
  refine mv_getR (pc := 1) (f := 4) (kc_0 l D E B sa) (Nat.le_of_ble_eq_true rfl) wt_1_150 de_PL_token_1 hJ (fun x1 e1 h1 => ?_)
  refine mv_iload_n (pc := 4) (i := 1) de_PL_token_4 rfl 1 rfl ?_
  obtain ⟨a5, ha, h5a⟩ := mj_bindE h1
  subst ha
  obtain ⟨hi5, h5o⟩ := mj_obE h5a
  obtain ⟨r5, Mm5, hz5, h5⟩ := mj_callE h5o
  refine mv_callV (pc := 5) (n := 1) (av := [.int v1]) (rest := []) de_PL_token_5 (kc_8 l D E B sa) hi5 (cm_Tk_tokenAt l D E B sa N M a5 v1 _ _ hz5) wt_4_61 wt_4_62 wt_4_63 wt_1_7 wt_4_64 ⟨by decide, by decide, by decide +kernel⟩ rfl ⟨Nat.le_of_ble_eq_true rfl, Nat.le_of_ble_eq_true rfl⟩ (Nat.le_of_ble_eq_true rfl) rfl ?_
  exact mv_iret (pc := 8) rfl de_PL_token_8 h5
theorem cm_PL_token (l : Launch) (D : va_G) (E : Nat → ClassId) (B : Nat) (sa : (Nat → Nat) × Nat × (Nat → Int32)) (N : Nat) (M : mv_M) (v0 : Nat) (v1 : Int32) (r : Int32) (M1 : mv_M) (hJ : jf_PL_token N M v0 v1 = some (r, M1)) : mv_Met (xg l D E B sa) yn_PL_token cd_PL_token 2 (some .int) 1 21 [va_rf (some v0), .int v1] M (some (.int r)) M1 :=
  mv_enter (by decide) (Nat.le_of_ble_eq_true rfl) (mv_sub (lv := [(0, va_rf (some v0)), (1, .int v1)]) [0, 1] rfl (tb_PL_token_0 l D E B sa M M1 r N M v0 v1 hJ))
/-! ===== PlainLearner$Tape.countParameters()I ===== -/
abbrev kd_Tp_countParameters : mv_Kd := (cd_Tp_countParameters, 3, "PlainLearner$Tape", "countParameters", (some .int), 0, 0)
theorem de_Tp_countParameters_0 : decode cd_Tp_countParameters 0 = .ok (.iconst 0, 1) := by decide +kernel
theorem de_Tp_countParameters_1 : decode cd_Tp_countParameters 1 = .ok (.istore_n 1, 1) := by decide +kernel
theorem de_Tp_countParameters_2 : decode cd_Tp_countParameters 2 = .ok (.iconst 0, 1) := by decide +kernel
theorem de_Tp_countParameters_3 : decode cd_Tp_countParameters 3 = .ok (.istore_n 2, 1) := by decide +kernel
theorem de_Tp_countParameters_4 : decode cd_Tp_countParameters 4 = .ok (.iload_n 2, 1) := by decide +kernel
theorem de_Tp_countParameters_5 : decode cd_Tp_countParameters 5 = .ok (.aload_n 0, 1) := by decide +kernel
theorem de_Tp_countParameters_6 : decode cd_Tp_countParameters 6 = .ok (.getfield 29, 3) := by decide +kernel
theorem de_Tp_countParameters_9 : decode cd_Tp_countParameters 9 = .ok (.if_icmp .ge 24, 3) := by decide +kernel
theorem de_Tp_countParameters_12 : decode cd_Tp_countParameters 12 = .ok (.aload_n 0, 1) := by decide +kernel
theorem de_Tp_countParameters_13 : decode cd_Tp_countParameters 13 = .ok (.getfield 13, 3) := by decide +kernel
theorem de_Tp_countParameters_16 : decode cd_Tp_countParameters 16 = .ok (.iload_n 2, 1) := by decide +kernel
theorem de_Tp_countParameters_17 : decode cd_Tp_countParameters 17 = .ok (.aaload, 1) := by decide +kernel
theorem de_Tp_countParameters_18 : decode cd_Tp_countParameters 18 = .ok (.getfield 96, 3) := by decide +kernel
theorem de_Tp_countParameters_21 : decode cd_Tp_countParameters 21 = .ok (.ifCond .eq 6, 3) := by decide +kernel
theorem de_Tp_countParameters_24 : decode cd_Tp_countParameters 24 = .ok (.iinc 1 1, 3) := by decide +kernel
theorem de_Tp_countParameters_27 : decode cd_Tp_countParameters 27 = .ok (.iinc 2 1, 3) := by decide +kernel
theorem de_Tp_countParameters_30 : decode cd_Tp_countParameters 30 = .ok (.goto (-26), 3) := by decide +kernel
theorem de_Tp_countParameters_33 : decode cd_Tp_countParameters 33 = .ok (.iload_n 1, 1) := by decide +kernel
theorem de_Tp_countParameters_34 : decode cd_Tp_countParameters 34 = .ok (.ireturn, 1) := by decide +kernel
def jb_Tp_countParameters_27 (N : Nat) (k4 : mv_M → Nat → Int32 → Int32 → Option (Int32 × mv_M)) (M : mv_M) (v0 : Nat) (v1 : Int32) (v2 : Int32) : Option (Int32 × mv_M) :=
  k4 M v0 v1 (v2 + 1)
def jb_Tp_countParameters_4 (N : Nat) : Nat → mv_M → Nat → Int32 → Int32 → Option (Int32 × mv_M)
  | 0, _, _, _, _ => none
  | n + 1, M, v0, v1, v2 =>
    Option.bind (mj_getI M v0 7 1) fun x6 =>
    if x6 ≤ v2 then (some (v1, M)) else
    Option.bind (mj_getR M v0 7 0) fun x13 =>
    Option.bind x13 fun a17 =>
    Option.bind (mj_rld M a17 3 v2) fun x17 =>
    Option.bind x17 fun a18 =>
    Option.bind (mj_getI M a18 2 11) fun x18 =>
    if x18 = 0 then (jb_Tp_countParameters_27 N (jb_Tp_countParameters_4 N n) M v0 v1 v2) else
    jb_Tp_countParameters_27 N (jb_Tp_countParameters_4 N n) M v0 (v1 + 1) v2
def jb_Tp_countParameters_0 (N : Nat) (M : mv_M) (v0 : Nat) : Option (Int32 × mv_M) :=
  jb_Tp_countParameters_4 N N M v0 0 0
def jf_Tp_countParameters (N : Nat) (M : mv_M) (v0 : Nat) : Option (Int32 × mv_M) := jb_Tp_countParameters_0 N M v0
set_option maxHeartbeats 4000000 in
set_option maxRecDepth 100000 in
theorem tb_Tp_countParameters_27 (l : Launch) (D : va_G) (E : Nat → ClassId) (B : Nat) (sa : (Nat → Nat) × Nat × (Nat → Int32)) (M0 M1 : mv_M) (r : Int32) (N : Nat) (k4 : mv_M → Nat → Int32 → Int32 → Option (Int32 × mv_M)) (hk4 : ∀ (M : mv_M) (v0 : Nat) (v1 : Int32) (v2 : Int32), k4 M v0 v1 v2 = some (r, M1) → mv_G (xg l D E B sa) kd_Tp_countParameters M0 M1 (some (.int r)) M 4 [(0, va_rf (some v0)), (1, .int v1), (2, .int v2)] []) (M : mv_M) (v0 : Nat) (v1 : Int32) (v2 : Int32) (hJ : jb_Tp_countParameters_27 N k4 M v0 v1 v2 = some (r, M1)) : mv_G (xg l D E B sa) kd_Tp_countParameters M0 M1 (some (.int r)) M 27 [(0, va_rf (some v0)), (1, .int v1), (2, .int v2)] [] := by
  unfold jb_Tp_countParameters_27 at hJ
  refine mv_iinc (pc := 27) (v := (v2 + 1)) (lv' := [(2, .int (v2 + 1)), (0, va_rf (some v0)), (1, .int v1)]) de_Tp_countParameters_27 2 rfl rfl (Nat.le_of_ble_eq_true rfl) rfl ?_
  refine mv_goto (pc := 30) (tgt := 4) de_Tp_countParameters_30 (by decide) ?_
  exact mv_sub [1, 2, 0] rfl (hk4 M v0 v1 (v2 + 1) hJ)
set_option maxHeartbeats 4000000 in
set_option maxRecDepth 100000 in
theorem tb_Tp_countParameters_4 (l : Launch) (D : va_G) (E : Nat → ClassId) (B : Nat) (sa : (Nat → Nat) × Nat × (Nat → Int32)) (M0 M1 : mv_M) (r : Int32) (N : Nat) : ∀ (n : Nat) (M : mv_M) (v0 : Nat) (v1 : Int32) (v2 : Int32) (hJ : jb_Tp_countParameters_4 N n M v0 v1 v2 = some (r, M1)), mv_G (xg l D E B sa) kd_Tp_countParameters M0 M1 (some (.int r)) M 4 [(0, va_rf (some v0)), (1, .int v1), (2, .int v2)] [] := by
  intro n
  induction n with
  | zero => intro M v0 v1 v2 hJ; cases hJ
  | succ n ih =>
    intro M v0 v1 v2 hJ
    rw [jb_Tp_countParameters_4] at hJ
    refine mv_iload_n (pc := 4) (i := 2) de_Tp_countParameters_4 rfl 2 rfl ?_
    refine mv_aload_n (pc := 5) (i := 0) de_Tp_countParameters_5 rfl 0 rfl ?_
    refine mv_getI (pc := 6) (f := 1) (kc_7 l D E B sa) (Nat.le_of_ble_eq_true rfl) wt_1_46 de_Tp_countParameters_6 hJ (fun x6 e6 h6 => ?_)
    refine mv_icmp_ge (pc := 9) (tgt := 33) de_Tp_countParameters_9 (by decide) h6 (fun hc9 h9 => ?_) (fun hc9 h9 => ?_)
    · refine mv_iload_n (pc := 33) (i := 1) de_Tp_countParameters_33 rfl 1 rfl ?_
      exact mv_iret (pc := 34) rfl de_Tp_countParameters_34 h9
    · refine mv_aload_n (pc := 12) (i := 0) de_Tp_countParameters_12 rfl 0 rfl ?_
      refine mv_getR (pc := 13) (f := 0) (kc_7 l D E B sa) (Nat.le_of_ble_eq_true rfl) wt_1_45 de_Tp_countParameters_13 h9 (fun x13 e13 h13 => ?_)
      refine mv_iload_n (pc := 16) (i := 2) de_Tp_countParameters_16 rfl 2 rfl ?_
      obtain ⟨a17, ha, h17a⟩ := mj_bindE h13
      subst ha
      refine mv_aald (pc := 17) (t := 3) rfl de_Tp_countParameters_17 h17a (fun x17 e17 h17 => ?_)
      obtain ⟨a18, ha, h18a⟩ := mj_bindE h17
      subst ha
      refine mv_getI (pc := 18) (f := 11) (kc_2 l D E B sa) (Nat.le_of_ble_eq_true rfl) wt_1_238 de_Tp_countParameters_18 h18a (fun x18 e18 h18 => ?_)
      refine mv_if_eq (pc := 21) (tgt := 27) de_Tp_countParameters_21 (by decide) h18 (fun hc21 h21 => ?_) (fun hc21 h21 => ?_)
      · exact mv_sub [0, 1, 2] rfl (tb_Tp_countParameters_27 l D E B sa M0 M1 r N (jb_Tp_countParameters_4 N n) ih M v0 v1 v2 h21)
      · refine mv_iinc (pc := 24) (v := (v1 + 1)) (lv' := [(1, .int (v1 + 1)), (0, va_rf (some v0)), (2, .int v2)]) de_Tp_countParameters_24 1 rfl rfl (Nat.le_of_ble_eq_true rfl) rfl ?_
        exact mv_sub [1, 0, 2] rfl (tb_Tp_countParameters_27 l D E B sa M0 M1 r N (jb_Tp_countParameters_4 N n) ih M v0 (v1 + 1) v2 h21)
set_option maxHeartbeats 4000000 in
set_option maxRecDepth 100000 in
theorem tb_Tp_countParameters_0 (l : Launch) (D : va_G) (E : Nat → ClassId) (B : Nat) (sa : (Nat → Nat) × Nat × (Nat → Int32)) (M0 M1 : mv_M) (r : Int32) (N : Nat) (M : mv_M) (v0 : Nat) (hJ : jb_Tp_countParameters_0 N M v0 = some (r, M1)) : mv_G (xg l D E B sa) kd_Tp_countParameters M0 M1 (some (.int r)) M 0 [(0, va_rf (some v0))] [] := by
  unfold jb_Tp_countParameters_0 at hJ
  refine mv_iconst (pc := 0) (v := 0) de_Tp_countParameters_0 (by decide) ?_
  refine mv_istore_n (pc := 1) (i := 1) (lv' := [(1, .int 0), (0, va_rf (some v0))]) de_Tp_countParameters_1 rfl (Nat.le_of_ble_eq_true rfl) rfl ?_
  refine mv_iconst (pc := 2) (v := 0) de_Tp_countParameters_2 (by decide) ?_
  refine mv_istore_n (pc := 3) (i := 2) (lv' := [(2, .int 0), (1, .int 0), (0, va_rf (some v0))]) de_Tp_countParameters_3 rfl (Nat.le_of_ble_eq_true rfl) rfl ?_
  exact mv_sub [2, 1, 0] rfl (tb_Tp_countParameters_4 l D E B sa M0 M1 r N N M v0 0 0 hJ)
theorem cm_Tp_countParameters (l : Launch) (D : va_G) (E : Nat → ClassId) (B : Nat) (sa : (Nat → Nat) × Nat × (Nat → Int32)) (N : Nat) (M : mv_M) (v0 : Nat) (r : Int32) (M1 : mv_M) (hJ : jf_Tp_countParameters N M v0 = some (r, M1)) : mv_Met (xg l D E B sa) yn_Tp_countParameters cd_Tp_countParameters 3 (some .int) 0 0 [va_rf (some v0)] M (some (.int r)) M1 :=
  mv_enter (by decide) (Nat.le_of_ble_eq_true rfl) (mv_sub (lv := [(0, va_rf (some v0))]) [0] rfl (tb_Tp_countParameters_0 l D E B sa M M1 r N M v0 hJ))
/-! ===== PlainLearner.count(I)I ===== -/
abbrev kd_PL_count : mv_Kd := (cd_PL_count, 2, "PlainLearner", "count", (some .int), 1, 22)
theorem de_PL_count_0 : decode cd_PL_count 0 = .ok (.iload_n 1, 1) := by decide +kernel
theorem de_PL_count_1 : decode cd_PL_count 1 = .ok (.tableswitch 99 0 6 #[43, 51, 59, 67, 75, 83, 91], 43) := by decide +kernel
theorem de_PL_count_44 : decode cd_PL_count 44 = .ok (.aload_n 0, 1) := by decide +kernel
theorem de_PL_count_45 : decode cd_PL_count 45 = .ok (.getfield 10, 3) := by decide +kernel
theorem de_PL_count_48 : decode cd_PL_count 48 = .ok (.getfield 182, 3) := by decide +kernel
theorem de_PL_count_51 : decode cd_PL_count 51 = .ok (.ireturn, 1) := by decide +kernel
theorem de_PL_count_52 : decode cd_PL_count 52 = .ok (.aload_n 0, 1) := by decide +kernel
theorem de_PL_count_53 : decode cd_PL_count 53 = .ok (.getfield 19, 3) := by decide +kernel
theorem de_PL_count_56 : decode cd_PL_count 56 = .ok (.getfield 183, 3) := by decide +kernel
theorem de_PL_count_59 : decode cd_PL_count 59 = .ok (.ireturn, 1) := by decide +kernel
theorem de_PL_count_60 : decode cd_PL_count 60 = .ok (.aload_n 0, 1) := by decide +kernel
theorem de_PL_count_61 : decode cd_PL_count 61 = .ok (.getfield 26, 3) := by decide +kernel
theorem de_PL_count_64 : decode cd_PL_count 64 = .ok (.getfield 148, 3) := by decide +kernel
theorem de_PL_count_67 : decode cd_PL_count 67 = .ok (.ireturn, 1) := by decide +kernel
theorem de_PL_count_68 : decode cd_PL_count 68 = .ok (.aload_n 0, 1) := by decide +kernel
theorem de_PL_count_69 : decode cd_PL_count 69 = .ok (.getfield 33, 3) := by decide +kernel
theorem de_PL_count_72 : decode cd_PL_count 72 = .ok (.getfield 184, 3) := by decide +kernel
theorem de_PL_count_75 : decode cd_PL_count 75 = .ok (.ireturn, 1) := by decide +kernel
theorem de_PL_count_76 : decode cd_PL_count 76 = .ok (.aload_n 0, 1) := by decide +kernel
theorem de_PL_count_77 : decode cd_PL_count 77 = .ok (.getfield 40, 3) := by decide +kernel
theorem de_PL_count_80 : decode cd_PL_count 80 = .ok (.getfield 185, 3) := by decide +kernel
theorem de_PL_count_83 : decode cd_PL_count 83 = .ok (.ireturn, 1) := by decide +kernel
theorem de_PL_count_84 : decode cd_PL_count 84 = .ok (.aload_n 0, 1) := by decide +kernel
theorem de_PL_count_85 : decode cd_PL_count 85 = .ok (.getfield 40, 3) := by decide +kernel
theorem de_PL_count_88 : decode cd_PL_count 88 = .ok (.getfield 186, 3) := by decide +kernel
theorem de_PL_count_91 : decode cd_PL_count 91 = .ok (.ireturn, 1) := by decide +kernel
theorem de_PL_count_92 : decode cd_PL_count 92 = .ok (.aload_n 0, 1) := by decide +kernel
theorem de_PL_count_93 : decode cd_PL_count 93 = .ok (.getfield 10, 3) := by decide +kernel
theorem de_PL_count_96 : decode cd_PL_count 96 = .ok (.invokevirtual 189, 3) := by decide +kernel
theorem de_PL_count_99 : decode cd_PL_count 99 = .ok (.ireturn, 1) := by decide +kernel
theorem de_PL_count_100 : decode cd_PL_count 100 = .ok (.iconst (-1), 1) := by decide +kernel
theorem de_PL_count_101 : decode cd_PL_count 101 = .ok (.ireturn, 1) := by decide +kernel
def jb_PL_count_0 (N : Nat) (M : mv_M) (v0 : Nat) (v1 : Int32) : Option (Int32 × mv_M) :=
  if v1 = 0 then (Option.bind (mj_getR M v0 0 0) fun x45 =>
  Option.bind x45 fun a48 =>
  Option.bind (mj_getI M a48 7 1) fun x48 =>
  some (x48, M)) else
  if v1 = 1 then (Option.bind (mj_getR M v0 0 1) fun x53 =>
  Option.bind x53 fun a56 =>
  Option.bind (mj_getI M a56 6 4) fun x56 =>
  some (x56, M)) else
  if v1 = 2 then (Option.bind (mj_getR M v0 0 2) fun x61 =>
  Option.bind x61 fun a64 =>
  Option.bind (mj_getI M a64 3 1) fun x64 =>
  some (x64, M)) else
  if v1 = 3 then (Option.bind (mj_getR M v0 0 3) fun x69 =>
  Option.bind x69 fun a72 =>
  Option.bind (mj_getI M a72 4 2) fun x72 =>
  some (x72, M)) else
  if v1 = 4 then (Option.bind (mj_getR M v0 0 4) fun x77 =>
  Option.bind x77 fun a80 =>
  Option.bind (mj_getI M a80 8 5) fun x80 =>
  some (x80, M)) else
  if v1 = 5 then (Option.bind (mj_getR M v0 0 4) fun x85 =>
  Option.bind x85 fun a88 =>
  Option.bind (mj_getI M a88 8 6) fun x88 =>
  some (x88, M)) else
  if v1 = 6 then (Option.bind (mj_getR M v0 0 0) fun x93 =>
  Option.bind x93 fun a96 =>
  mj_ob M a96 7 <|
  mj_call (jf_Tp_countParameters N M a96) fun r96 Mm96 =>
  some (r96, Mm96)) else
  some ((-1), M)
def jf_PL_count (N : Nat) (M : mv_M) (v0 : Nat) (v1 : Int32) : Option (Int32 × mv_M) := jb_PL_count_0 N M v0 v1
set_option maxHeartbeats 4000000 in
set_option maxRecDepth 100000 in
theorem tb_PL_count_0 (l : Launch) (D : va_G) (E : Nat → ClassId) (B : Nat) (sa : (Nat → Nat) × Nat × (Nat → Int32)) (M0 M1 : mv_M) (r : Int32) (N : Nat) (M : mv_M) (v0 : Nat) (v1 : Int32) (hJ : jb_PL_count_0 N M v0 v1 = some (r, M1)) : mv_G (xg l D E B sa) kd_PL_count M0 M1 (some (.int r)) M 0 [(0, va_rf (some v0)), (1, .int v1)] [] := by
  unfold jb_PL_count_0 at hJ
  refine mv_iload_n (pc := 0) (i := 1) de_PL_count_0 rfl 1 rfl ?_
  by_cases hs1_0 : v1 = 0
  · rw [if_pos hs1_0] at hJ
    refine mv_tin (pc := 1) (tgt := 44) (off := 43) 0 de_PL_count_1 hs1_0 (by decide) (by decide) ?_
    refine mv_aload_n (pc := 44) (i := 0) de_PL_count_44 rfl 0 rfl ?_
    refine mv_getR (pc := 45) (f := 0) (kc_0 l D E B sa) (Nat.le_of_ble_eq_true rfl) wt_1_146 de_PL_count_45 hJ (fun x45 e45 h45 => ?_)
    obtain ⟨a48, ha, h48a⟩ := mj_bindE h45
    subst ha
    refine mv_getI (pc := 48) (f := 1) (kc_7 l D E B sa) (Nat.le_of_ble_eq_true rfl) wt_1_47 de_PL_count_48 h48a (fun x48 e48 h48 => ?_)
    exact mv_iret (pc := 51) rfl de_PL_count_51 h48
  rw [if_neg hs1_0] at hJ
  by_cases hs1_1 : v1 = 1
  · rw [if_pos hs1_1] at hJ
    refine mv_tin (pc := 1) (tgt := 52) (off := 51) 1 de_PL_count_1 hs1_1 (by decide) (by decide) ?_
    refine mv_aload_n (pc := 52) (i := 0) de_PL_count_52 rfl 0 rfl ?_
    refine mv_getR (pc := 53) (f := 1) (kc_0 l D E B sa) (Nat.le_of_ble_eq_true rfl) wt_1_147 de_PL_count_53 hJ (fun x53 e53 h53 => ?_)
    obtain ⟨a56, ha, h56a⟩ := mj_bindE h53
    subst ha
    refine mv_getI (pc := 56) (f := 4) (kc_6 l D E B sa) (Nat.le_of_ble_eq_true rfl) wt_1_71 de_PL_count_56 h56a (fun x56 e56 h56 => ?_)
    exact mv_iret (pc := 59) rfl de_PL_count_59 h56
  rw [if_neg hs1_1] at hJ
  by_cases hs1_2 : v1 = 2
  · rw [if_pos hs1_2] at hJ
    refine mv_tin (pc := 1) (tgt := 60) (off := 59) 2 de_PL_count_1 hs1_2 (by decide) (by decide) ?_
    refine mv_aload_n (pc := 60) (i := 0) de_PL_count_60 rfl 0 rfl ?_
    refine mv_getR (pc := 61) (f := 2) (kc_0 l D E B sa) (Nat.le_of_ble_eq_true rfl) wt_1_148 de_PL_count_61 hJ (fun x61 e61 h61 => ?_)
    obtain ⟨a64, ha, h64a⟩ := mj_bindE h61
    subst ha
    refine mv_getI (pc := 64) (f := 1) (kc_3 l D E B sa) (Nat.le_of_ble_eq_true rfl) wt_1_92 de_PL_count_64 h64a (fun x64 e64 h64 => ?_)
    exact mv_iret (pc := 67) rfl de_PL_count_67 h64
  rw [if_neg hs1_2] at hJ
  by_cases hs1_3 : v1 = 3
  · rw [if_pos hs1_3] at hJ
    refine mv_tin (pc := 1) (tgt := 68) (off := 67) 3 de_PL_count_1 hs1_3 (by decide) (by decide) ?_
    refine mv_aload_n (pc := 68) (i := 0) de_PL_count_68 rfl 0 rfl ?_
    refine mv_getR (pc := 69) (f := 3) (kc_0 l D E B sa) (Nat.le_of_ble_eq_true rfl) wt_1_149 de_PL_count_69 hJ (fun x69 e69 h69 => ?_)
    obtain ⟨a72, ha, h72a⟩ := mj_bindE h69
    subst ha
    refine mv_getI (pc := 72) (f := 2) (kc_4 l D E B sa) (Nat.le_of_ble_eq_true rfl) wt_1_107 de_PL_count_72 h72a (fun x72 e72 h72 => ?_)
    exact mv_iret (pc := 75) rfl de_PL_count_75 h72
  rw [if_neg hs1_3] at hJ
  by_cases hs1_4 : v1 = 4
  · rw [if_pos hs1_4] at hJ
    refine mv_tin (pc := 1) (tgt := 76) (off := 75) 4 de_PL_count_1 hs1_4 (by decide) (by decide) ?_
    refine mv_aload_n (pc := 76) (i := 0) de_PL_count_76 rfl 0 rfl ?_
    refine mv_getR (pc := 77) (f := 4) (kc_0 l D E B sa) (Nat.le_of_ble_eq_true rfl) wt_1_150 de_PL_count_77 hJ (fun x77 e77 h77 => ?_)
    obtain ⟨a80, ha, h80a⟩ := mj_bindE h77
    subst ha
    refine mv_getI (pc := 80) (f := 5) (kc_8 l D E B sa) (Nat.le_of_ble_eq_true rfl) wt_1_128 de_PL_count_80 h80a (fun x80 e80 h80 => ?_)
    exact mv_iret (pc := 83) rfl de_PL_count_83 h80
  rw [if_neg hs1_4] at hJ
  by_cases hs1_5 : v1 = 5
  · rw [if_pos hs1_5] at hJ
    refine mv_tin (pc := 1) (tgt := 84) (off := 83) 5 de_PL_count_1 hs1_5 (by decide) (by decide) ?_
    refine mv_aload_n (pc := 84) (i := 0) de_PL_count_84 rfl 0 rfl ?_
    refine mv_getR (pc := 85) (f := 4) (kc_0 l D E B sa) (Nat.le_of_ble_eq_true rfl) wt_1_150 de_PL_count_85 hJ (fun x85 e85 h85 => ?_)
    obtain ⟨a88, ha, h88a⟩ := mj_bindE h85
    subst ha
    refine mv_getI (pc := 88) (f := 6) (kc_8 l D E B sa) (Nat.le_of_ble_eq_true rfl) wt_1_130 de_PL_count_88 h88a (fun x88 e88 h88 => ?_)
    exact mv_iret (pc := 91) rfl de_PL_count_91 h88
  rw [if_neg hs1_5] at hJ
  by_cases hs1_6 : v1 = 6
  · rw [if_pos hs1_6] at hJ
    refine mv_tin (pc := 1) (tgt := 92) (off := 91) 6 de_PL_count_1 hs1_6 (by decide) (by decide) ?_
    refine mv_aload_n (pc := 92) (i := 0) de_PL_count_92 rfl 0 rfl ?_
    refine mv_getR (pc := 93) (f := 0) (kc_0 l D E B sa) (Nat.le_of_ble_eq_true rfl) wt_1_146 de_PL_count_93 hJ (fun x93 e93 h93 => ?_)
    obtain ⟨a96, ha, h96a⟩ := mj_bindE h93
    subst ha
    obtain ⟨hi96, h96o⟩ := mj_obE h96a
    obtain ⟨r96, Mm96, hz96, h96⟩ := mj_callE h96o
    refine mv_callV (pc := 96) (n := 0) (av := []) (rest := []) de_PL_count_96 (kc_7 l D E B sa) hi96 (cm_Tp_countParameters l D E B sa N M a96 _ _ hz96) wt_4_69 wt_4_70 wt_4_71 wt_1_2 wt_4_72 ⟨by decide, by decide, by decide +kernel⟩ rfl ⟨Nat.le_of_ble_eq_true rfl, Nat.le_of_ble_eq_true rfl⟩ (Nat.le_of_ble_eq_true rfl) rfl ?_
    exact mv_iret (pc := 99) rfl de_PL_count_99 h96
  rw [if_neg hs1_6] at hJ
  have qhs1_0 := lv_neT (a := 0) hs1_0 (by decide)
  have qhs1_1 := lv_neT (a := 1) hs1_1 (by decide)
  have qhs1_2 := lv_neT (a := 2) hs1_2 (by decide)
  have qhs1_3 := lv_neT (a := 3) hs1_3 (by decide)
  have qhs1_4 := lv_neT (a := 4) hs1_4 (by decide)
  have qhs1_5 := lv_neT (a := 5) hs1_5 (by decide)
  have qhs1_6 := lv_neT (a := 6) hs1_6 (by decide)
  refine mv_tout (pc := 1) (tgt := 100) de_PL_count_1 (by omega) (by decide) ?_
  refine mv_iconst (pc := 100) (v := (-1)) de_PL_count_100 (by decide) ?_
  exact mv_iret (pc := 101) rfl de_PL_count_101 hJ
theorem cm_PL_count (l : Launch) (D : va_G) (E : Nat → ClassId) (B : Nat) (sa : (Nat → Nat) × Nat × (Nat → Int32)) (N : Nat) (M : mv_M) (v0 : Nat) (v1 : Int32) (r : Int32) (M1 : mv_M) (hJ : jf_PL_count N M v0 v1 = some (r, M1)) : mv_Met (xg l D E B sa) yn_PL_count cd_PL_count 2 (some .int) 1 22 [va_rf (some v0), .int v1] M (some (.int r)) M1 :=
  mv_enter (by decide) (Nat.le_of_ble_eq_true rfl) (mv_sub (lv := [(0, va_rf (some v0)), (1, .int v1)]) [0, 1] rfl (tb_PL_count_0 l D E B sa M M1 r N M v0 v1 hJ))
/-! ===== PlainLearnerModel.<init>()V ===== -/
abbrev kd_PM_init : mv_Kd := (cd_PM_init, 1, "PlainLearnerModel", "<init>", none, 1, 20)
theorem de_PM_init_0 : decode cd_PM_init 0 = .ok (.aload_n 0, 1) := by decide +kernel
theorem de_PM_init_1 : decode cd_PM_init 1 = .ok (.invokespecial 1, 3) := by decide +kernel
theorem de_PM_init_4 : decode cd_PM_init 4 = .ok (.aload_n 0, 1) := by decide +kernel
theorem de_PM_init_5 : decode cd_PM_init 5 = .ok (.bipush 50, 2) := by decide +kernel
theorem de_PM_init_7 : decode cd_PM_init 7 = .ok (.newarray .int, 2) := by decide +kernel
theorem de_PM_init_9 : decode cd_PM_init 9 = .ok (.putfield 7, 3) := by decide +kernel
theorem de_PM_init_12 : decode cd_PM_init 12 = .ok (.aload_n 0, 1) := by decide +kernel
theorem de_PM_init_13 : decode cd_PM_init 13 = .ok (.bipush 50, 2) := by decide +kernel
theorem de_PM_init_15 : decode cd_PM_init 15 = .ok (.newarray .int, 2) := by decide +kernel
theorem de_PM_init_17 : decode cd_PM_init 17 = .ok (.putfield 13, 3) := by decide +kernel
theorem de_PM_init_20 : decode cd_PM_init 20 = .ok (.aload_n 0, 1) := by decide +kernel
theorem de_PM_init_21 : decode cd_PM_init 21 = .ok (.bipush 50, 2) := by decide +kernel
theorem de_PM_init_23 : decode cd_PM_init 23 = .ok (.newarray .int, 2) := by decide +kernel
theorem de_PM_init_25 : decode cd_PM_init 25 = .ok (.putfield 16, 3) := by decide +kernel
theorem de_PM_init_28 : decode cd_PM_init 28 = .ok (.aload_n 0, 1) := by decide +kernel
theorem de_PM_init_29 : decode cd_PM_init 29 = .ok (.bipush 50, 2) := by decide +kernel
theorem de_PM_init_31 : decode cd_PM_init 31 = .ok (.newarray .int, 2) := by decide +kernel
theorem de_PM_init_33 : decode cd_PM_init 33 = .ok (.putfield 19, 3) := by decide +kernel
theorem de_PM_init_36 : decode cd_PM_init 36 = .ok (.aload_n 0, 1) := by decide +kernel
theorem de_PM_init_37 : decode cd_PM_init 37 = .ok (.sipush 150, 3) := by decide +kernel
theorem de_PM_init_40 : decode cd_PM_init 40 = .ok (.newarray .int, 2) := by decide +kernel
theorem de_PM_init_42 : decode cd_PM_init 42 = .ok (.putfield 22, 3) := by decide +kernel
theorem de_PM_init_45 : decode cd_PM_init 45 = .ok (.aload_n 0, 1) := by decide +kernel
theorem de_PM_init_46 : decode cd_PM_init 46 = .ok (.bipush 50, 2) := by decide +kernel
theorem de_PM_init_48 : decode cd_PM_init 48 = .ok (.newarray .boolean, 2) := by decide +kernel
theorem de_PM_init_50 : decode cd_PM_init 50 = .ok (.putfield 25, 3) := by decide +kernel
theorem de_PM_init_53 : decode cd_PM_init 53 = .ok (.aload_n 0, 1) := by decide +kernel
theorem de_PM_init_54 : decode cd_PM_init 54 = .ok (.sipush 3200, 3) := by decide +kernel
theorem de_PM_init_57 : decode cd_PM_init 57 = .ok (.newarray .long, 2) := by decide +kernel
theorem de_PM_init_59 : decode cd_PM_init 59 = .ok (.putfield 29, 3) := by decide +kernel
theorem de_PM_init_62 : decode cd_PM_init 62 = .ok (.aload_n 0, 1) := by decide +kernel
theorem de_PM_init_63 : decode cd_PM_init 63 = .ok (.sipush 3200, 3) := by decide +kernel
theorem de_PM_init_66 : decode cd_PM_init 66 = .ok (.newarray .long, 2) := by decide +kernel
theorem de_PM_init_68 : decode cd_PM_init 68 = .ok (.putfield 33, 3) := by decide +kernel
theorem de_PM_init_71 : decode cd_PM_init 71 = .ok (.aload_n 0, 1) := by decide +kernel
theorem de_PM_init_72 : decode cd_PM_init 72 = .ok (.iconst 3, 1) := by decide +kernel
theorem de_PM_init_73 : decode cd_PM_init 73 = .ok (.newarray .int, 2) := by decide +kernel
theorem de_PM_init_75 : decode cd_PM_init 75 = .ok (.putfield 36, 3) := by decide +kernel
theorem de_PM_init_78 : decode cd_PM_init 78 = .ok (.aload_n 0, 1) := by decide +kernel
theorem de_PM_init_79 : decode cd_PM_init 79 = .ok (.sipush 3200, 3) := by decide +kernel
theorem de_PM_init_82 : decode cd_PM_init 82 = .ok (.newarray .long, 2) := by decide +kernel
theorem de_PM_init_84 : decode cd_PM_init 84 = .ok (.putfield 39, 3) := by decide +kernel
theorem de_PM_init_87 : decode cd_PM_init 87 = .ok (.aload_n 0, 1) := by decide +kernel
theorem de_PM_init_88 : decode cd_PM_init 88 = .ok (.sipush 3200, 3) := by decide +kernel
theorem de_PM_init_91 : decode cd_PM_init 91 = .ok (.newarray .long, 2) := by decide +kernel
theorem de_PM_init_93 : decode cd_PM_init 93 = .ok (.putfield 42, 3) := by decide +kernel
theorem de_PM_init_96 : decode cd_PM_init 96 = .ok (.aload_n 0, 1) := by decide +kernel
theorem de_PM_init_97 : decode cd_PM_init 97 = .ok (.bipush 50, 2) := by decide +kernel
theorem de_PM_init_99 : decode cd_PM_init 99 = .ok (.newarray .long, 2) := by decide +kernel
theorem de_PM_init_101 : decode cd_PM_init 101 = .ok (.putfield 45, 3) := by decide +kernel
theorem de_PM_init_104 : decode cd_PM_init 104 = .ok (.aload_n 0, 1) := by decide +kernel
theorem de_PM_init_105 : decode cd_PM_init 105 = .ok (.sipush 200, 3) := by decide +kernel
theorem de_PM_init_108 : decode cd_PM_init 108 = .ok (.newarray .int, 2) := by decide +kernel
theorem de_PM_init_110 : decode cd_PM_init 110 = .ok (.putfield 48, 3) := by decide +kernel
theorem de_PM_init_113 : decode cd_PM_init 113 = .ok (.aload_n 0, 1) := by decide +kernel
theorem de_PM_init_114 : decode cd_PM_init 114 = .ok (.sipush 256, 3) := by decide +kernel
theorem de_PM_init_117 : decode cd_PM_init 117 = .ok (.newarray .int, 2) := by decide +kernel
theorem de_PM_init_119 : decode cd_PM_init 119 = .ok (.putfield 51, 3) := by decide +kernel
theorem de_PM_init_122 : decode cd_PM_init 122 = .ok (.aload_n 0, 1) := by decide +kernel
theorem de_PM_init_123 : decode cd_PM_init 123 = .ok (.bipush 40, 2) := by decide +kernel
theorem de_PM_init_125 : decode cd_PM_init 125 = .ok (.newarray .int, 2) := by decide +kernel
theorem de_PM_init_127 : decode cd_PM_init 127 = .ok (.putfield 54, 3) := by decide +kernel
theorem de_PM_init_130 : decode cd_PM_init 130 = .ok (.aload_n 0, 1) := by decide +kernel
theorem de_PM_init_131 : decode cd_PM_init 131 = .ok (.bipush 40, 2) := by decide +kernel
theorem de_PM_init_133 : decode cd_PM_init 133 = .ok (.newarray .boolean, 2) := by decide +kernel
theorem de_PM_init_135 : decode cd_PM_init 135 = .ok (.putfield 57, 3) := by decide +kernel
theorem de_PM_init_138 : decode cd_PM_init 138 = .ok (.aload_n 0, 1) := by decide +kernel
theorem de_PM_init_139 : decode cd_PM_init 139 = .ok (.sipush 200, 3) := by decide +kernel
theorem de_PM_init_142 : decode cd_PM_init 142 = .ok (.newarray .int, 2) := by decide +kernel
theorem de_PM_init_144 : decode cd_PM_init 144 = .ok (.putfield 60, 3) := by decide +kernel
theorem de_PM_init_147 : decode cd_PM_init 147 = .ok (.aload_n 0, 1) := by decide +kernel
theorem de_PM_init_148 : decode cd_PM_init 148 = .ok (.bipush 60, 2) := by decide +kernel
theorem de_PM_init_150 : decode cd_PM_init 150 = .ok (.newarray .int, 2) := by decide +kernel
theorem de_PM_init_152 : decode cd_PM_init 152 = .ok (.putfield 63, 3) := by decide +kernel
theorem de_PM_init_155 : decode cd_PM_init 155 = .ok (.aload_n 0, 1) := by decide +kernel
theorem de_PM_init_156 : decode cd_PM_init 156 = .ok (.bipush 60, 2) := by decide +kernel
theorem de_PM_init_158 : decode cd_PM_init 158 = .ok (.newarray .int, 2) := by decide +kernel
theorem de_PM_init_160 : decode cd_PM_init 160 = .ok (.putfield 66, 3) := by decide +kernel
theorem de_PM_init_163 : decode cd_PM_init 163 = .ok (.aload_n 0, 1) := by decide +kernel
theorem de_PM_init_164 : decode cd_PM_init 164 = .ok (.bipush 60, 2) := by decide +kernel
theorem de_PM_init_166 : decode cd_PM_init 166 = .ok (.newarray .int, 2) := by decide +kernel
theorem de_PM_init_168 : decode cd_PM_init 168 = .ok (.putfield 69, 3) := by decide +kernel
theorem de_PM_init_171 : decode cd_PM_init 171 = .ok (.aload_n 0, 1) := by decide +kernel
theorem de_PM_init_172 : decode cd_PM_init 172 = .ok (.lconst 1, 1) := by decide +kernel
theorem de_PM_init_173 : decode cd_PM_init 173 = .ok (.putfield 72, 3) := by decide +kernel
theorem de_PM_init_176 : decode cd_PM_init 176 = .ok (.aload_n 0, 1) := by decide +kernel
theorem de_PM_init_177 : decode cd_PM_init 177 = .ok (.ldc2_w 76, 3) := by decide +kernel
theorem de_PM_init_180 : decode cd_PM_init 180 = .ok (.putfield 78, 3) := by decide +kernel
theorem de_PM_init_183 : decode cd_PM_init 183 = .ok (.return_, 1) := by decide +kernel
def jb_PM_init_0 (N : Nat) (M : mv_M) (v0 : Nat) : Option (Unit × mv_M) :=
  mj_na M 0 (50 : Int32) ((50 : Int32).toNatClampNeg, .inl (fun _ => 0)) fun q7 Mm7 =>
  Option.bind (mj_put Mm7 v0 1 3 (va_rf (some q7))) fun Mm9 =>
  mj_na Mm9 0 (50 : Int32) ((50 : Int32).toNatClampNeg, .inl (fun _ => 0)) fun q15 Mm15 =>
  Option.bind (mj_put Mm15 v0 1 4 (va_rf (some q15))) fun Mm17 =>
  mj_na Mm17 0 (50 : Int32) ((50 : Int32).toNatClampNeg, .inl (fun _ => 0)) fun q23 Mm23 =>
  Option.bind (mj_put Mm23 v0 1 5 (va_rf (some q23))) fun Mm25 =>
  mj_na Mm25 0 (50 : Int32) ((50 : Int32).toNatClampNeg, .inl (fun _ => 0)) fun q31 Mm31 =>
  Option.bind (mj_put Mm31 v0 1 6 (va_rf (some q31))) fun Mm33 =>
  mj_na Mm33 0 (150 : Int32) ((150 : Int32).toNatClampNeg, .inl (fun _ => 0)) fun q40 Mm40 =>
  Option.bind (mj_put Mm40 v0 1 7 (va_rf (some q40))) fun Mm42 =>
  mj_na Mm42 2 (50 : Int32) ((50 : Int32).toNatClampNeg, .inl (fun _ => 0)) fun q48 Mm48 =>
  Option.bind (mj_put Mm48 v0 1 8 (va_rf (some q48))) fun Mm50 =>
  mj_na Mm50 1 (3200 : Int32) ((3200 : Int32).toNatClampNeg, .inr (.inl (fun _ => 0))) fun q57 Mm57 =>
  Option.bind (mj_put Mm57 v0 1 9 (va_rf (some q57))) fun Mm59 =>
  mj_na Mm59 1 (3200 : Int32) ((3200 : Int32).toNatClampNeg, .inr (.inl (fun _ => 0))) fun q66 Mm66 =>
  Option.bind (mj_put Mm66 v0 1 10 (va_rf (some q66))) fun Mm68 =>
  mj_na Mm68 0 (3 : Int32) ((3 : Int32).toNatClampNeg, .inl (fun _ => 0)) fun q73 Mm73 =>
  Option.bind (mj_put Mm73 v0 1 12 (va_rf (some q73))) fun Mm75 =>
  mj_na Mm75 1 (3200 : Int32) ((3200 : Int32).toNatClampNeg, .inr (.inl (fun _ => 0))) fun q82 Mm82 =>
  Option.bind (mj_put Mm82 v0 1 13 (va_rf (some q82))) fun Mm84 =>
  mj_na Mm84 1 (3200 : Int32) ((3200 : Int32).toNatClampNeg, .inr (.inl (fun _ => 0))) fun q91 Mm91 =>
  Option.bind (mj_put Mm91 v0 1 14 (va_rf (some q91))) fun Mm93 =>
  mj_na Mm93 1 (50 : Int32) ((50 : Int32).toNatClampNeg, .inr (.inl (fun _ => 0))) fun q99 Mm99 =>
  Option.bind (mj_put Mm99 v0 1 17 (va_rf (some q99))) fun Mm101 =>
  mj_na Mm101 0 (200 : Int32) ((200 : Int32).toNatClampNeg, .inl (fun _ => 0)) fun q108 Mm108 =>
  Option.bind (mj_put Mm108 v0 1 21 (va_rf (some q108))) fun Mm110 =>
  mj_na Mm110 0 (256 : Int32) ((256 : Int32).toNatClampNeg, .inl (fun _ => 0)) fun q117 Mm117 =>
  Option.bind (mj_put Mm117 v0 1 27 (va_rf (some q117))) fun Mm119 =>
  mj_na Mm119 0 (40 : Int32) ((40 : Int32).toNatClampNeg, .inl (fun _ => 0)) fun q125 Mm125 =>
  Option.bind (mj_put Mm125 v0 1 29 (va_rf (some q125))) fun Mm127 =>
  mj_na Mm127 2 (40 : Int32) ((40 : Int32).toNatClampNeg, .inl (fun _ => 0)) fun q133 Mm133 =>
  Option.bind (mj_put Mm133 v0 1 30 (va_rf (some q133))) fun Mm135 =>
  mj_na Mm135 0 (200 : Int32) ((200 : Int32).toNatClampNeg, .inl (fun _ => 0)) fun q142 Mm142 =>
  Option.bind (mj_put Mm142 v0 1 32 (va_rf (some q142))) fun Mm144 =>
  mj_na Mm144 0 (60 : Int32) ((60 : Int32).toNatClampNeg, .inl (fun _ => 0)) fun q150 Mm150 =>
  Option.bind (mj_put Mm150 v0 1 34 (va_rf (some q150))) fun Mm152 =>
  mj_na Mm152 0 (60 : Int32) ((60 : Int32).toNatClampNeg, .inl (fun _ => 0)) fun q158 Mm158 =>
  Option.bind (mj_put Mm158 v0 1 35 (va_rf (some q158))) fun Mm160 =>
  mj_na Mm160 0 (60 : Int32) ((60 : Int32).toNatClampNeg, .inl (fun _ => 0)) fun q166 Mm166 =>
  Option.bind (mj_put Mm166 v0 1 36 (va_rf (some q166))) fun Mm168 =>
  Option.bind (mj_put Mm168 v0 1 18 (.long 1)) fun Mm173 =>
  Option.bind (mj_put Mm173 v0 1 19 (.long 10)) fun Mm180 =>
  some ((), Mm180)
def jf_PM_init (N : Nat) (M : mv_M) (v0 : Nat) : Option (Unit × mv_M) := jb_PM_init_0 N M v0
set_option maxHeartbeats 4000000 in
set_option maxRecDepth 100000 in
theorem tb_PM_init_0 (l : Launch) (D : va_G) (E : Nat → ClassId) (B : Nat) (sa : (Nat → Nat) × Nat × (Nat → Int32)) (M0 M1 : mv_M) (r : Unit) (N : Nat) (M : mv_M) (v0 : Nat) (hJ : jb_PM_init_0 N M v0 = some (r, M1)) : mv_G (xg l D E B sa) kd_PM_init M0 M1 none M 0 [(0, va_rf (some v0))] [] := by
  unfold jb_PM_init_0 at hJ
  refine mv_aload_n (pc := 0) (i := 0) de_PM_init_0 rfl 0 rfl ?_
  refine mv_objInit (pc := 1) wt_4_78 wt_1_23 wt_1_24 de_PM_init_1 (Nat.le_of_ble_eq_true rfl) (Nat.le_of_ble_eq_true rfl) (Nat.le_of_ble_eq_true rfl) ?_
  refine mv_aload_n (pc := 4) (i := 0) de_PM_init_4 rfl 0 rfl ?_
  refine mv_bipush (pc := 5) (v := 50) de_PM_init_5 (by decide) ?_
  refine mv_na (pc := 7) (t := 0) rfl rfl wt_1_83 (fun _ => rfl) (by decide) mv_raI de_PM_init_7 hJ (fun q7 Mm7 eq7 eM7 h7 => ?_)
  refine mv_putF (pc := 9) (f := 3) (kc_1 l D E B sa) (Nat.le_of_ble_eq_true rfl) wt_4_83 rfl rfl rfl (mv_narA _ _) (mv_fitA _ _) de_PM_init_9 h7 (fun Mm9 e9 h9 => ?_)
  refine mv_aload_n (pc := 12) (i := 0) de_PM_init_12 rfl 0 rfl ?_
  refine mv_bipush (pc := 13) (v := 50) de_PM_init_13 (by decide) ?_
  refine mv_na (pc := 15) (t := 0) rfl rfl wt_1_83 (fun _ => rfl) (by decide) mv_raI de_PM_init_15 h9 (fun q15 Mm15 eq15 eM15 h15 => ?_)
  refine mv_putF (pc := 17) (f := 4) (kc_1 l D E B sa) (Nat.le_of_ble_eq_true rfl) wt_4_84 rfl rfl rfl (mv_narA _ _) (mv_fitA _ _) de_PM_init_17 h15 (fun Mm17 e17 h17 => ?_)
  refine mv_aload_n (pc := 20) (i := 0) de_PM_init_20 rfl 0 rfl ?_
  refine mv_bipush (pc := 21) (v := 50) de_PM_init_21 (by decide) ?_
  refine mv_na (pc := 23) (t := 0) rfl rfl wt_1_83 (fun _ => rfl) (by decide) mv_raI de_PM_init_23 h17 (fun q23 Mm23 eq23 eM23 h23 => ?_)
  refine mv_putF (pc := 25) (f := 5) (kc_1 l D E B sa) (Nat.le_of_ble_eq_true rfl) wt_4_85 rfl rfl rfl (mv_narA _ _) (mv_fitA _ _) de_PM_init_25 h23 (fun Mm25 e25 h25 => ?_)
  refine mv_aload_n (pc := 28) (i := 0) de_PM_init_28 rfl 0 rfl ?_
  refine mv_bipush (pc := 29) (v := 50) de_PM_init_29 (by decide) ?_
  refine mv_na (pc := 31) (t := 0) rfl rfl wt_1_83 (fun _ => rfl) (by decide) mv_raI de_PM_init_31 h25 (fun q31 Mm31 eq31 eM31 h31 => ?_)
  refine mv_putF (pc := 33) (f := 6) (kc_1 l D E B sa) (Nat.le_of_ble_eq_true rfl) wt_4_86 rfl rfl rfl (mv_narA _ _) (mv_fitA _ _) de_PM_init_33 h31 (fun Mm33 e33 h33 => ?_)
  refine mv_aload_n (pc := 36) (i := 0) de_PM_init_36 rfl 0 rfl ?_
  refine mv_sipush (pc := 37) (v := 150) de_PM_init_37 (by decide) ?_
  refine mv_na (pc := 40) (t := 0) rfl rfl wt_1_83 (fun _ => rfl) (by decide) mv_raI de_PM_init_40 h33 (fun q40 Mm40 eq40 eM40 h40 => ?_)
  refine mv_putF (pc := 42) (f := 7) (kc_1 l D E B sa) (Nat.le_of_ble_eq_true rfl) wt_4_87 rfl rfl rfl (mv_narA _ _) (mv_fitA _ _) de_PM_init_42 h40 (fun Mm42 e42 h42 => ?_)
  refine mv_aload_n (pc := 45) (i := 0) de_PM_init_45 rfl 0 rfl ?_
  refine mv_bipush (pc := 46) (v := 50) de_PM_init_46 (by decide) ?_
  refine mv_na (pc := 48) (t := 2) rfl rfl wt_1_115 (fun _ => rfl) (by decide) mv_raZ de_PM_init_48 h42 (fun q48 Mm48 eq48 eM48 h48 => ?_)
  refine mv_putF (pc := 50) (f := 8) (kc_1 l D E B sa) (Nat.le_of_ble_eq_true rfl) wt_4_88 rfl rfl rfl (mv_narA _ _) (mv_fitA _ _) de_PM_init_50 h48 (fun Mm50 e50 h50 => ?_)
  refine mv_aload_n (pc := 53) (i := 0) de_PM_init_53 rfl 0 rfl ?_
  refine mv_sipush (pc := 54) (v := 3200) de_PM_init_54 (by decide) ?_
  refine mv_na (pc := 57) (t := 1) rfl rfl wt_2_27 (fun _ => rfl) (by decide) mv_raL de_PM_init_57 h50 (fun q57 Mm57 eq57 eM57 h57 => ?_)
  refine mv_putF (pc := 59) (f := 9) (kc_1 l D E B sa) (Nat.le_of_ble_eq_true rfl) wt_4_89 rfl rfl rfl (mv_narA _ _) (mv_fitA _ _) de_PM_init_59 h57 (fun Mm59 e59 h59 => ?_)
  refine mv_aload_n (pc := 62) (i := 0) de_PM_init_62 rfl 0 rfl ?_
  refine mv_sipush (pc := 63) (v := 3200) de_PM_init_63 (by decide) ?_
  refine mv_na (pc := 66) (t := 1) rfl rfl wt_2_27 (fun _ => rfl) (by decide) mv_raL de_PM_init_66 h59 (fun q66 Mm66 eq66 eM66 h66 => ?_)
  refine mv_putF (pc := 68) (f := 10) (kc_1 l D E B sa) (Nat.le_of_ble_eq_true rfl) wt_4_90 rfl rfl rfl (mv_narA _ _) (mv_fitA _ _) de_PM_init_68 h66 (fun Mm68 e68 h68 => ?_)
  refine mv_aload_n (pc := 71) (i := 0) de_PM_init_71 rfl 0 rfl ?_
  refine mv_iconst (pc := 72) (v := 3) de_PM_init_72 (by decide) ?_
  refine mv_na (pc := 73) (t := 0) rfl rfl wt_1_83 (fun _ => rfl) (by decide) mv_raI de_PM_init_73 h68 (fun q73 Mm73 eq73 eM73 h73 => ?_)
  refine mv_putF (pc := 75) (f := 12) (kc_1 l D E B sa) (Nat.le_of_ble_eq_true rfl) wt_4_92 rfl rfl rfl (mv_narA _ _) (mv_fitA _ _) de_PM_init_75 h73 (fun Mm75 e75 h75 => ?_)
  refine mv_aload_n (pc := 78) (i := 0) de_PM_init_78 rfl 0 rfl ?_
  refine mv_sipush (pc := 79) (v := 3200) de_PM_init_79 (by decide) ?_
  refine mv_na (pc := 82) (t := 1) rfl rfl wt_2_27 (fun _ => rfl) (by decide) mv_raL de_PM_init_82 h75 (fun q82 Mm82 eq82 eM82 h82 => ?_)
  refine mv_putF (pc := 84) (f := 13) (kc_1 l D E B sa) (Nat.le_of_ble_eq_true rfl) wt_4_93 rfl rfl rfl (mv_narA _ _) (mv_fitA _ _) de_PM_init_84 h82 (fun Mm84 e84 h84 => ?_)
  refine mv_aload_n (pc := 87) (i := 0) de_PM_init_87 rfl 0 rfl ?_
  refine mv_sipush (pc := 88) (v := 3200) de_PM_init_88 (by decide) ?_
  refine mv_na (pc := 91) (t := 1) rfl rfl wt_2_27 (fun _ => rfl) (by decide) mv_raL de_PM_init_91 h84 (fun q91 Mm91 eq91 eM91 h91 => ?_)
  refine mv_putF (pc := 93) (f := 14) (kc_1 l D E B sa) (Nat.le_of_ble_eq_true rfl) wt_4_94 rfl rfl rfl (mv_narA _ _) (mv_fitA _ _) de_PM_init_93 h91 (fun Mm93 e93 h93 => ?_)
  refine mv_aload_n (pc := 96) (i := 0) de_PM_init_96 rfl 0 rfl ?_
  refine mv_bipush (pc := 97) (v := 50) de_PM_init_97 (by decide) ?_
  refine mv_na (pc := 99) (t := 1) rfl rfl wt_2_27 (fun _ => rfl) (by decide) mv_raL de_PM_init_99 h93 (fun q99 Mm99 eq99 eM99 h99 => ?_)
  refine mv_putF (pc := 101) (f := 17) (kc_1 l D E B sa) (Nat.le_of_ble_eq_true rfl) wt_4_97 rfl rfl rfl (mv_narA _ _) (mv_fitA _ _) de_PM_init_101 h99 (fun Mm101 e101 h101 => ?_)
  refine mv_aload_n (pc := 104) (i := 0) de_PM_init_104 rfl 0 rfl ?_
  refine mv_sipush (pc := 105) (v := 200) de_PM_init_105 (by decide) ?_
  refine mv_na (pc := 108) (t := 0) rfl rfl wt_1_83 (fun _ => rfl) (by decide) mv_raI de_PM_init_108 h101 (fun q108 Mm108 eq108 eM108 h108 => ?_)
  refine mv_putF (pc := 110) (f := 21) (kc_1 l D E B sa) (Nat.le_of_ble_eq_true rfl) wt_4_101 rfl rfl rfl (mv_narA _ _) (mv_fitA _ _) de_PM_init_110 h108 (fun Mm110 e110 h110 => ?_)
  refine mv_aload_n (pc := 113) (i := 0) de_PM_init_113 rfl 0 rfl ?_
  refine mv_sipush (pc := 114) (v := 256) de_PM_init_114 (by decide) ?_
  refine mv_na (pc := 117) (t := 0) rfl rfl wt_1_83 (fun _ => rfl) (by decide) mv_raI de_PM_init_117 h110 (fun q117 Mm117 eq117 eM117 h117 => ?_)
  refine mv_putF (pc := 119) (f := 27) (kc_1 l D E B sa) (Nat.le_of_ble_eq_true rfl) wt_4_107 rfl rfl rfl (mv_narA _ _) (mv_fitA _ _) de_PM_init_119 h117 (fun Mm119 e119 h119 => ?_)
  refine mv_aload_n (pc := 122) (i := 0) de_PM_init_122 rfl 0 rfl ?_
  refine mv_bipush (pc := 123) (v := 40) de_PM_init_123 (by decide) ?_
  refine mv_na (pc := 125) (t := 0) rfl rfl wt_1_83 (fun _ => rfl) (by decide) mv_raI de_PM_init_125 h119 (fun q125 Mm125 eq125 eM125 h125 => ?_)
  refine mv_putF (pc := 127) (f := 29) (kc_1 l D E B sa) (Nat.le_of_ble_eq_true rfl) wt_4_109 rfl rfl rfl (mv_narA _ _) (mv_fitA _ _) de_PM_init_127 h125 (fun Mm127 e127 h127 => ?_)
  refine mv_aload_n (pc := 130) (i := 0) de_PM_init_130 rfl 0 rfl ?_
  refine mv_bipush (pc := 131) (v := 40) de_PM_init_131 (by decide) ?_
  refine mv_na (pc := 133) (t := 2) rfl rfl wt_1_115 (fun _ => rfl) (by decide) mv_raZ de_PM_init_133 h127 (fun q133 Mm133 eq133 eM133 h133 => ?_)
  refine mv_putF (pc := 135) (f := 30) (kc_1 l D E B sa) (Nat.le_of_ble_eq_true rfl) wt_4_110 rfl rfl rfl (mv_narA _ _) (mv_fitA _ _) de_PM_init_135 h133 (fun Mm135 e135 h135 => ?_)
  refine mv_aload_n (pc := 138) (i := 0) de_PM_init_138 rfl 0 rfl ?_
  refine mv_sipush (pc := 139) (v := 200) de_PM_init_139 (by decide) ?_
  refine mv_na (pc := 142) (t := 0) rfl rfl wt_1_83 (fun _ => rfl) (by decide) mv_raI de_PM_init_142 h135 (fun q142 Mm142 eq142 eM142 h142 => ?_)
  refine mv_putF (pc := 144) (f := 32) (kc_1 l D E B sa) (Nat.le_of_ble_eq_true rfl) wt_4_112 rfl rfl rfl (mv_narA _ _) (mv_fitA _ _) de_PM_init_144 h142 (fun Mm144 e144 h144 => ?_)
  refine mv_aload_n (pc := 147) (i := 0) de_PM_init_147 rfl 0 rfl ?_
  refine mv_bipush (pc := 148) (v := 60) de_PM_init_148 (by decide) ?_
  refine mv_na (pc := 150) (t := 0) rfl rfl wt_1_83 (fun _ => rfl) (by decide) mv_raI de_PM_init_150 h144 (fun q150 Mm150 eq150 eM150 h150 => ?_)
  refine mv_putF (pc := 152) (f := 34) (kc_1 l D E B sa) (Nat.le_of_ble_eq_true rfl) wt_4_114 rfl rfl rfl (mv_narA _ _) (mv_fitA _ _) de_PM_init_152 h150 (fun Mm152 e152 h152 => ?_)
  refine mv_aload_n (pc := 155) (i := 0) de_PM_init_155 rfl 0 rfl ?_
  refine mv_bipush (pc := 156) (v := 60) de_PM_init_156 (by decide) ?_
  refine mv_na (pc := 158) (t := 0) rfl rfl wt_1_83 (fun _ => rfl) (by decide) mv_raI de_PM_init_158 h152 (fun q158 Mm158 eq158 eM158 h158 => ?_)
  refine mv_putF (pc := 160) (f := 35) (kc_1 l D E B sa) (Nat.le_of_ble_eq_true rfl) wt_4_115 rfl rfl rfl (mv_narA _ _) (mv_fitA _ _) de_PM_init_160 h158 (fun Mm160 e160 h160 => ?_)
  refine mv_aload_n (pc := 163) (i := 0) de_PM_init_163 rfl 0 rfl ?_
  refine mv_bipush (pc := 164) (v := 60) de_PM_init_164 (by decide) ?_
  refine mv_na (pc := 166) (t := 0) rfl rfl wt_1_83 (fun _ => rfl) (by decide) mv_raI de_PM_init_166 h160 (fun q166 Mm166 eq166 eM166 h166 => ?_)
  refine mv_putF (pc := 168) (f := 36) (kc_1 l D E B sa) (Nat.le_of_ble_eq_true rfl) wt_4_116 rfl rfl rfl (mv_narA _ _) (mv_fitA _ _) de_PM_init_168 h166 (fun Mm168 e168 h168 => ?_)
  refine mv_aload_n (pc := 171) (i := 0) de_PM_init_171 rfl 0 rfl ?_
  refine mv_lconst (pc := 172) (v := 1) de_PM_init_172 (by decide) ?_
  refine mv_put (pc := 173) (f := 18) (kc_1 l D E B sa) (Nat.le_of_ble_eq_true rfl) wt_4_98 rfl rfl rfl de_PM_init_173 h168 (fun Mm173 e173 h173 => ?_)
  refine mv_aload_n (pc := 176) (i := 0) de_PM_init_176 rfl 0 rfl ?_
  refine mv_ldc2 (pc := 177) de_PM_init_177 wt_4_79 ?_
  refine mv_put (pc := 180) (f := 19) (kc_1 l D E B sa) (Nat.le_of_ble_eq_true rfl) wt_4_99 rfl rfl rfl de_PM_init_180 h173 (fun Mm180 e180 h180 => ?_)
  exact mv_vret (pc := 183) rfl de_PM_init_183 h180
theorem cm_PM_init (l : Launch) (D : va_G) (E : Nat → ClassId) (B : Nat) (sa : (Nat → Nat) × Nat × (Nat → Int32)) (N : Nat) (M : mv_M) (v0 : Nat) (r : Unit) (M1 : mv_M) (hJ : jf_PM_init N M v0 = some (r, M1)) : mv_Met (xg l D E B sa) yn_PM_init cd_PM_init 1 none 1 20 [va_rf (some v0)] M none M1 :=
  mv_enter (by decide) (Nat.le_of_ble_eq_true rfl) (mv_sub (lv := [(0, va_rf (some v0))]) [0] rfl (tb_PM_init_0 l D E B sa M M1 r N M v0 hJ))
/-! ===== PlainLearnerModel.least(JJ)V ===== -/
abbrev kd_PM_least : mv_Kd := (cd_PM_least, 11, "PlainLearnerModel", "least", none, 0, 0)
theorem de_PM_least_0 : decode cd_PM_least 0 = .ok (.lload_n 3, 1) := by decide +kernel
theorem de_PM_least_1 : decode cd_PM_least 1 = .ok (.lconst 0, 1) := by decide +kernel
theorem de_PM_least_2 : decode cd_PM_least 2 = .ok (.lcmp, 1) := by decide +kernel
theorem de_PM_least_3 : decode cd_PM_least 3 = .ok (.ifCond .ne 14, 3) := by decide +kernel
theorem de_PM_least_6 : decode cd_PM_least 6 = .ok (.aload_n 0, 1) := by decide +kernel
theorem de_PM_least_7 : decode cd_PM_least 7 = .ok (.lconst 0, 1) := by decide +kernel
theorem de_PM_least_8 : decode cd_PM_least 8 = .ok (.putfield 81, 3) := by decide +kernel
theorem de_PM_least_11 : decode cd_PM_least 11 = .ok (.aload_n 0, 1) := by decide +kernel
theorem de_PM_least_12 : decode cd_PM_least 12 = .ok (.lconst 0, 1) := by decide +kernel
theorem de_PM_least_13 : decode cd_PM_least 13 = .ok (.putfield 84, 3) := by decide +kernel
theorem de_PM_least_16 : decode cd_PM_least 16 = .ok (.return_, 1) := by decide +kernel
theorem de_PM_least_17 : decode cd_PM_least 17 = .ok (.lload_n 1, 1) := by decide +kernel
theorem de_PM_least_18 : decode cd_PM_least 18 = .ok (.lconst 0, 1) := by decide +kernel
theorem de_PM_least_19 : decode cd_PM_least 19 = .ok (.lcmp, 1) := by decide +kernel
theorem de_PM_least_20 : decode cd_PM_least 20 = .ok (.ifCond .ge 8, 3) := by decide +kernel
theorem de_PM_least_23 : decode cd_PM_least 23 = .ok (.lload_n 1, 1) := by decide +kernel
theorem de_PM_least_24 : decode cd_PM_least 24 = .ok (.lneg, 1) := by decide +kernel
theorem de_PM_least_25 : decode cd_PM_least 25 = .ok (.goto 4, 3) := by decide +kernel
theorem de_PM_least_28 : decode cd_PM_least 28 = .ok (.lload_n 1, 1) := by decide +kernel
theorem de_PM_least_29 : decode cd_PM_least 29 = .ok (.lstore 5, 2) := by decide +kernel
theorem de_PM_least_31 : decode cd_PM_least 31 = .ok (.lload_n 3, 1) := by decide +kernel
theorem de_PM_least_32 : decode cd_PM_least 32 = .ok (.lconst 0, 1) := by decide +kernel
theorem de_PM_least_33 : decode cd_PM_least 33 = .ok (.lcmp, 1) := by decide +kernel
theorem de_PM_least_34 : decode cd_PM_least 34 = .ok (.ifCond .ge 8, 3) := by decide +kernel
theorem de_PM_least_37 : decode cd_PM_least 37 = .ok (.lload_n 3, 1) := by decide +kernel
theorem de_PM_least_38 : decode cd_PM_least 38 = .ok (.lneg, 1) := by decide +kernel
theorem de_PM_least_39 : decode cd_PM_least 39 = .ok (.goto 4, 3) := by decide +kernel
theorem de_PM_least_42 : decode cd_PM_least 42 = .ok (.lload_n 3, 1) := by decide +kernel
theorem de_PM_least_43 : decode cd_PM_least 43 = .ok (.lstore 7, 2) := by decide +kernel
theorem de_PM_least_45 : decode cd_PM_least 45 = .ok (.lload 7, 2) := by decide +kernel
theorem de_PM_least_47 : decode cd_PM_least 47 = .ok (.lconst 0, 1) := by decide +kernel
theorem de_PM_least_48 : decode cd_PM_least 48 = .ok (.lcmp, 1) := by decide +kernel
theorem de_PM_least_49 : decode cd_PM_least 49 = .ok (.ifCond .eq 21, 3) := by decide +kernel
theorem de_PM_least_52 : decode cd_PM_least 52 = .ok (.lload 5, 2) := by decide +kernel
theorem de_PM_least_54 : decode cd_PM_least 54 = .ok (.lload 7, 2) := by decide +kernel
theorem de_PM_least_56 : decode cd_PM_least 56 = .ok (.lrem, 1) := by decide +kernel
theorem de_PM_least_57 : decode cd_PM_least 57 = .ok (.lstore 9, 2) := by decide +kernel
theorem de_PM_least_59 : decode cd_PM_least 59 = .ok (.lload 7, 2) := by decide +kernel
theorem de_PM_least_61 : decode cd_PM_least 61 = .ok (.lstore 5, 2) := by decide +kernel
theorem de_PM_least_63 : decode cd_PM_least 63 = .ok (.lload 9, 2) := by decide +kernel
theorem de_PM_least_65 : decode cd_PM_least 65 = .ok (.lstore 7, 2) := by decide +kernel
theorem de_PM_least_67 : decode cd_PM_least 67 = .ok (.goto (-22), 3) := by decide +kernel
theorem de_PM_least_70 : decode cd_PM_least 70 = .ok (.aload_n 0, 1) := by decide +kernel
theorem de_PM_least_71 : decode cd_PM_least 71 = .ok (.lload_n 3, 1) := by decide +kernel
theorem de_PM_least_72 : decode cd_PM_least 72 = .ok (.lconst 0, 1) := by decide +kernel
theorem de_PM_least_73 : decode cd_PM_least 73 = .ok (.lcmp, 1) := by decide +kernel
theorem de_PM_least_74 : decode cd_PM_least 74 = .ok (.ifCond .ge 11, 3) := by decide +kernel
theorem de_PM_least_77 : decode cd_PM_least 77 = .ok (.lload_n 1, 1) := by decide +kernel
theorem de_PM_least_78 : decode cd_PM_least 78 = .ok (.lload 5, 2) := by decide +kernel
theorem de_PM_least_80 : decode cd_PM_least 80 = .ok (.ldiv, 1) := by decide +kernel
theorem de_PM_least_81 : decode cd_PM_least 81 = .ok (.lneg, 1) := by decide +kernel
theorem de_PM_least_82 : decode cd_PM_least 82 = .ok (.goto 7, 3) := by decide +kernel
theorem de_PM_least_85 : decode cd_PM_least 85 = .ok (.lload_n 1, 1) := by decide +kernel
theorem de_PM_least_86 : decode cd_PM_least 86 = .ok (.lload 5, 2) := by decide +kernel
theorem de_PM_least_88 : decode cd_PM_least 88 = .ok (.ldiv, 1) := by decide +kernel
theorem de_PM_least_89 : decode cd_PM_least 89 = .ok (.putfield 81, 3) := by decide +kernel
theorem de_PM_least_92 : decode cd_PM_least 92 = .ok (.aload_n 0, 1) := by decide +kernel
theorem de_PM_least_93 : decode cd_PM_least 93 = .ok (.lload_n 3, 1) := by decide +kernel
theorem de_PM_least_94 : decode cd_PM_least 94 = .ok (.lconst 0, 1) := by decide +kernel
theorem de_PM_least_95 : decode cd_PM_least 95 = .ok (.lcmp, 1) := by decide +kernel
theorem de_PM_least_96 : decode cd_PM_least 96 = .ok (.ifCond .ge 11, 3) := by decide +kernel
theorem de_PM_least_99 : decode cd_PM_least 99 = .ok (.lload_n 3, 1) := by decide +kernel
theorem de_PM_least_100 : decode cd_PM_least 100 = .ok (.lload 5, 2) := by decide +kernel
theorem de_PM_least_102 : decode cd_PM_least 102 = .ok (.ldiv, 1) := by decide +kernel
theorem de_PM_least_103 : decode cd_PM_least 103 = .ok (.lneg, 1) := by decide +kernel
theorem de_PM_least_104 : decode cd_PM_least 104 = .ok (.goto 7, 3) := by decide +kernel
theorem de_PM_least_107 : decode cd_PM_least 107 = .ok (.lload_n 3, 1) := by decide +kernel
theorem de_PM_least_108 : decode cd_PM_least 108 = .ok (.lload 5, 2) := by decide +kernel
theorem de_PM_least_110 : decode cd_PM_least 110 = .ok (.ldiv, 1) := by decide +kernel
theorem de_PM_least_111 : decode cd_PM_least 111 = .ok (.putfield 84, 3) := by decide +kernel
theorem de_PM_least_114 : decode cd_PM_least 114 = .ok (.aload_n 0, 1) := by decide +kernel
theorem de_PM_least_115 : decode cd_PM_least 115 = .ok (.getfield 81, 3) := by decide +kernel
theorem de_PM_least_118 : decode cd_PM_least 118 = .ok (.ldc2_w 87, 3) := by decide +kernel
theorem de_PM_least_121 : decode cd_PM_least 121 = .ok (.lcmp, 1) := by decide +kernel
theorem de_PM_least_122 : decode cd_PM_least 122 = .ok (.ifCond .gt 25, 3) := by decide +kernel
theorem de_PM_least_125 : decode cd_PM_least 125 = .ok (.aload_n 0, 1) := by decide +kernel
theorem de_PM_least_126 : decode cd_PM_least 126 = .ok (.getfield 81, 3) := by decide +kernel
theorem de_PM_least_129 : decode cd_PM_least 129 = .ok (.ldc2_w 89, 3) := by decide +kernel
theorem de_PM_least_132 : decode cd_PM_least 132 = .ok (.lcmp, 1) := by decide +kernel
theorem de_PM_least_133 : decode cd_PM_least 133 = .ok (.ifCond .lt 14, 3) := by decide +kernel
theorem de_PM_least_136 : decode cd_PM_least 136 = .ok (.aload_n 0, 1) := by decide +kernel
theorem de_PM_least_137 : decode cd_PM_least 137 = .ok (.getfield 84, 3) := by decide +kernel
theorem de_PM_least_140 : decode cd_PM_least 140 = .ok (.ldc2_w 87, 3) := by decide +kernel
theorem de_PM_least_143 : decode cd_PM_least 143 = .ok (.lcmp, 1) := by decide +kernel
theorem de_PM_least_144 : decode cd_PM_least 144 = .ok (.ifCond .le 13, 3) := by decide +kernel
theorem de_PM_least_147 : decode cd_PM_least 147 = .ok (.aload_n 0, 1) := by decide +kernel
theorem de_PM_least_148 : decode cd_PM_least 148 = .ok (.lconst 0, 1) := by decide +kernel
theorem de_PM_least_149 : decode cd_PM_least 149 = .ok (.putfield 81, 3) := by decide +kernel
theorem de_PM_least_152 : decode cd_PM_least 152 = .ok (.aload_n 0, 1) := by decide +kernel
theorem de_PM_least_153 : decode cd_PM_least 153 = .ok (.lconst 0, 1) := by decide +kernel
theorem de_PM_least_154 : decode cd_PM_least 154 = .ok (.putfield 84, 3) := by decide +kernel
theorem de_PM_least_157 : decode cd_PM_least 157 = .ok (.return_, 1) := by decide +kernel
def jb_PM_least_157 (N : Nat) (M : mv_M) : Option (Unit × mv_M) :=
  some ((), M)
def jb_PM_least_147 (N : Nat) (M : mv_M) (v0 : Nat) : Option (Unit × mv_M) :=
  Option.bind (mj_put M v0 1 0 (.long 0)) fun Mm149 =>
  Option.bind (mj_put Mm149 v0 1 1 (.long 0)) fun Mm154 =>
  jb_PM_least_157 N Mm154
def jb_PM_least_111 (N : Nat) (M : mv_M) (v0 : Nat) (s0 : Nat) (s1 : Int64) : Option (Unit × mv_M) :=
  Option.bind (mj_put M s0 1 1 (.long s1)) fun Mm111 =>
  Option.bind (mj_getL Mm111 v0 1 0) fun x115 =>
  if 0 < (lg_cmp x115 2147483647) then (jb_PM_least_147 N Mm111 v0) else
  Option.bind (mj_getL Mm111 v0 1 0) fun x126 =>
  if (lg_cmp x126 (-2147483647)) < 0 then (jb_PM_least_147 N Mm111 v0) else
  Option.bind (mj_getL Mm111 v0 1 1) fun x137 =>
  if (lg_cmp x137 2147483647) ≤ 0 then (jb_PM_least_157 N Mm111) else
  jb_PM_least_147 N Mm111 v0
def jb_PM_least_89 (N : Nat) (M : mv_M) (v0 : Nat) (v3 : Int64) (v5 : Int64) (s0 : Nat) (s1 : Int64) : Option (Unit × mv_M) :=
  Option.bind (mj_put M s0 1 0 (.long s1)) fun Mm89 =>
  if 0 ≤ (lg_cmp v3 0) then (if v5 = 0 then none else
  jb_PM_least_111 N Mm89 v0 v0 (v3 / v5)) else
  if v5 = 0 then none else
  jb_PM_least_111 N Mm89 v0 v0 (-(v3 / v5))
def jb_PM_least_45 (N : Nat) : Nat → mv_M → Nat → Int64 → Int64 → Int64 → Int64 → Option (Unit × mv_M)
  | 0, _, _, _, _, _, _ => none
  | n + 1, M, v0, v1, v3, v5, v7 =>
    if (lg_cmp v7 0) = 0 then (if 0 ≤ (lg_cmp v3 0) then (if v5 = 0 then none else
    jb_PM_least_89 N M v0 v3 v5 v0 (v1 / v5)) else
    if v5 = 0 then none else
    jb_PM_least_89 N M v0 v3 v5 v0 (-(v1 / v5))) else
    if v7 = 0 then none else
    jb_PM_least_45 N n M v0 v1 v3 v7 (v5 - v5 / v7 * v7)
def jb_PM_least_43 (N : Nat) (M : mv_M) (v0 : Nat) (v1 : Int64) (v3 : Int64) (v5 : Int64) (s0 : Int64) : Option (Unit × mv_M) :=
  jb_PM_least_45 N N M v0 v1 v3 v5 s0
def jb_PM_least_29 (N : Nat) (M : mv_M) (v0 : Nat) (v1 : Int64) (v3 : Int64) (s0 : Int64) : Option (Unit × mv_M) :=
  if 0 ≤ (lg_cmp v3 0) then (jb_PM_least_43 N M v0 v1 v3 s0 v3) else
  jb_PM_least_43 N M v0 v1 v3 s0 (-v3)
def jb_PM_least_0 (N : Nat) (M : mv_M) (v0 : Nat) (v1 : Int64) (v3 : Int64) : Option (Unit × mv_M) :=
  if (lg_cmp v3 0) = 0 then (Option.bind (mj_put M v0 1 0 (.long 0)) fun Mm8 =>
  Option.bind (mj_put Mm8 v0 1 1 (.long 0)) fun Mm13 =>
  some ((), Mm13)) else
  if 0 ≤ (lg_cmp v1 0) then (jb_PM_least_29 N M v0 v1 v3 v1) else
  jb_PM_least_29 N M v0 v1 v3 (-v1)
def jf_PM_least (N : Nat) (M : mv_M) (v0 : Nat) (v1 : Int64) (v3 : Int64) : Option (Unit × mv_M) := jb_PM_least_0 N M v0 v1 v3
set_option maxHeartbeats 4000000 in
set_option maxRecDepth 100000 in
theorem tb_PM_least_157 (l : Launch) (D : va_G) (E : Nat → ClassId) (B : Nat) (sa : (Nat → Nat) × Nat × (Nat → Int32)) (M0 M1 : mv_M) (r : Unit) (N : Nat) (M : mv_M) (hJ : jb_PM_least_157 N M = some (r, M1)) : mv_G (xg l D E B sa) kd_PM_least M0 M1 none M 157 [] [] := by
  unfold jb_PM_least_157 at hJ
  exact mv_vret (pc := 157) rfl de_PM_least_157 hJ
set_option maxHeartbeats 4000000 in
set_option maxRecDepth 100000 in
theorem tb_PM_least_147 (l : Launch) (D : va_G) (E : Nat → ClassId) (B : Nat) (sa : (Nat → Nat) × Nat × (Nat → Int32)) (M0 M1 : mv_M) (r : Unit) (N : Nat) (M : mv_M) (v0 : Nat) (hJ : jb_PM_least_147 N M v0 = some (r, M1)) : mv_G (xg l D E B sa) kd_PM_least M0 M1 none M 147 [(0, va_rf (some v0))] [] := by
  unfold jb_PM_least_147 at hJ
  refine mv_aload_n (pc := 147) (i := 0) de_PM_least_147 rfl 0 rfl ?_
  refine mv_lconst (pc := 148) (v := 0) de_PM_least_148 (by decide) ?_
  refine mv_put (pc := 149) (f := 0) (kc_1 l D E B sa) (Nat.le_of_ble_eq_true rfl) wt_4_80 rfl rfl rfl de_PM_least_149 hJ (fun Mm149 e149 h149 => ?_)
  refine mv_aload_n (pc := 152) (i := 0) de_PM_least_152 rfl 0 rfl ?_
  refine mv_lconst (pc := 153) (v := 0) de_PM_least_153 (by decide) ?_
  refine mv_put (pc := 154) (f := 1) (kc_1 l D E B sa) (Nat.le_of_ble_eq_true rfl) wt_4_81 rfl rfl rfl de_PM_least_154 h149 (fun Mm154 e154 h154 => ?_)
  exact mv_sub [] rfl (tb_PM_least_157 l D E B sa M0 M1 r N Mm154 h154)
set_option maxHeartbeats 4000000 in
set_option maxRecDepth 100000 in
theorem tb_PM_least_111 (l : Launch) (D : va_G) (E : Nat → ClassId) (B : Nat) (sa : (Nat → Nat) × Nat × (Nat → Int32)) (M0 M1 : mv_M) (r : Unit) (N : Nat) (M : mv_M) (v0 : Nat) (s0 : Nat) (s1 : Int64) (hJ : jb_PM_least_111 N M v0 s0 s1 = some (r, M1)) : mv_G (xg l D E B sa) kd_PM_least M0 M1 none M 111 [(0, va_rf (some v0))] [.long s1, va_rf (some s0)] := by
  unfold jb_PM_least_111 at hJ
  refine mv_put (pc := 111) (f := 1) (kc_1 l D E B sa) (Nat.le_of_ble_eq_true rfl) wt_4_81 rfl rfl rfl de_PM_least_111 hJ (fun Mm111 e111 h111 => ?_)
  refine mv_aload_n (pc := 114) (i := 0) de_PM_least_114 rfl 0 rfl ?_
  refine mv_getL (pc := 115) (f := 0) (kc_1 l D E B sa) (Nat.le_of_ble_eq_true rfl) wt_4_80 de_PM_least_115 h111 (fun x115 e115 h115 => ?_)
  refine mv_ldc2 (pc := 118) de_PM_least_118 wt_4_221 ?_
  refine mv_lcmp (pc := 121) de_PM_least_121 ?_
  refine mv_if_gt (pc := 122) (tgt := 147) de_PM_least_122 (by decide) h115 (fun hc122 h122 => ?_) (fun hc122 h122 => ?_)
  · exact mv_sub [0] rfl (tb_PM_least_147 l D E B sa M0 M1 r N Mm111 v0 h122)
  · refine mv_aload_n (pc := 125) (i := 0) de_PM_least_125 rfl 0 rfl ?_
    refine mv_getL (pc := 126) (f := 0) (kc_1 l D E B sa) (Nat.le_of_ble_eq_true rfl) wt_4_80 de_PM_least_126 h122 (fun x126 e126 h126 => ?_)
    refine mv_ldc2 (pc := 129) de_PM_least_129 wt_4_222 ?_
    refine mv_lcmp (pc := 132) de_PM_least_132 ?_
    refine mv_if_lt (pc := 133) (tgt := 147) de_PM_least_133 (by decide) h126 (fun hc133 h133 => ?_) (fun hc133 h133 => ?_)
    · exact mv_sub [0] rfl (tb_PM_least_147 l D E B sa M0 M1 r N Mm111 v0 h133)
    · refine mv_aload_n (pc := 136) (i := 0) de_PM_least_136 rfl 0 rfl ?_
      refine mv_getL (pc := 137) (f := 1) (kc_1 l D E B sa) (Nat.le_of_ble_eq_true rfl) wt_4_81 de_PM_least_137 h133 (fun x137 e137 h137 => ?_)
      refine mv_ldc2 (pc := 140) de_PM_least_140 wt_4_221 ?_
      refine mv_lcmp (pc := 143) de_PM_least_143 ?_
      refine mv_if_le (pc := 144) (tgt := 157) de_PM_least_144 (by decide) h137 (fun hc144 h144 => ?_) (fun hc144 h144 => ?_)
      · exact mv_sub [] rfl (tb_PM_least_157 l D E B sa M0 M1 r N Mm111 h144)
      · exact mv_sub [0] rfl (tb_PM_least_147 l D E B sa M0 M1 r N Mm111 v0 h144)
set_option maxHeartbeats 4000000 in
set_option maxRecDepth 100000 in
theorem tb_PM_least_89 (l : Launch) (D : va_G) (E : Nat → ClassId) (B : Nat) (sa : (Nat → Nat) × Nat × (Nat → Int32)) (M0 M1 : mv_M) (r : Unit) (N : Nat) (M : mv_M) (v0 : Nat) (v3 : Int64) (v5 : Int64) (s0 : Nat) (s1 : Int64) (hJ : jb_PM_least_89 N M v0 v3 v5 s0 s1 = some (r, M1)) : mv_G (xg l D E B sa) kd_PM_least M0 M1 none M 89 [(0, va_rf (some v0)), (3, .long v3), (5, .long v5)] [.long s1, va_rf (some s0)] := by
  unfold jb_PM_least_89 at hJ
  refine mv_put (pc := 89) (f := 0) (kc_1 l D E B sa) (Nat.le_of_ble_eq_true rfl) wt_4_80 rfl rfl rfl de_PM_least_89 hJ (fun Mm89 e89 h89 => ?_)
  refine mv_aload_n (pc := 92) (i := 0) de_PM_least_92 rfl 0 rfl ?_
  refine mv_lload_n (pc := 93) (i := 3) de_PM_least_93 rfl 1 rfl ?_
  refine mv_lconst (pc := 94) (v := 0) de_PM_least_94 (by decide) ?_
  refine mv_lcmp (pc := 95) de_PM_least_95 ?_
  refine mv_if_ge (pc := 96) (tgt := 107) de_PM_least_96 (by decide) h89 (fun hc96 h96 => ?_) (fun hc96 h96 => ?_)
  · refine mv_lload_n (pc := 107) (i := 3) de_PM_least_107 rfl 1 rfl ?_
    refine mv_lload (pc := 108) de_PM_least_108 2 rfl ?_
    refine mv_ldiv (pc := 110) de_PM_least_110 h96 (fun hc_110 h110 => ?_)
    exact mv_sub [0] rfl (tb_PM_least_111 l D E B sa M0 M1 r N Mm89 v0 v0 (v3 / v5) h110)
  · refine mv_lload_n (pc := 99) (i := 3) de_PM_least_99 rfl 1 rfl ?_
    refine mv_lload (pc := 100) de_PM_least_100 2 rfl ?_
    refine mv_ldiv (pc := 102) de_PM_least_102 h96 (fun hc_102 h102 => ?_)
    refine mv_lneg (pc := 103) de_PM_least_103 ?_
    refine mv_goto (pc := 104) (tgt := 111) de_PM_least_104 (by decide) ?_
    exact mv_sub [0] rfl (tb_PM_least_111 l D E B sa M0 M1 r N Mm89 v0 v0 (-(v3 / v5)) h102)
set_option maxHeartbeats 4000000 in
set_option maxRecDepth 100000 in
theorem tb_PM_least_45 (l : Launch) (D : va_G) (E : Nat → ClassId) (B : Nat) (sa : (Nat → Nat) × Nat × (Nat → Int32)) (M0 M1 : mv_M) (r : Unit) (N : Nat) : ∀ (n : Nat) (M : mv_M) (v0 : Nat) (v1 : Int64) (v3 : Int64) (v5 : Int64) (v7 : Int64) (hJ : jb_PM_least_45 N n M v0 v1 v3 v5 v7 = some (r, M1)), mv_G (xg l D E B sa) kd_PM_least M0 M1 none M 45 [(0, va_rf (some v0)), (1, .long v1), (3, .long v3), (5, .long v5), (7, .long v7)] [] := by
  intro n
  induction n with
  | zero => intro M v0 v1 v3 v5 v7 hJ; cases hJ
  | succ n ih =>
    intro M v0 v1 v3 v5 v7 hJ
    rw [jb_PM_least_45] at hJ
    refine mv_lload (pc := 45) de_PM_least_45 4 rfl ?_
    refine mv_lconst (pc := 47) (v := 0) de_PM_least_47 (by decide) ?_
    refine mv_lcmp (pc := 48) de_PM_least_48 ?_
    refine mv_if_eq (pc := 49) (tgt := 70) de_PM_least_49 (by decide) hJ (fun hc49 h49 => ?_) (fun hc49 h49 => ?_)
    · refine mv_aload_n (pc := 70) (i := 0) de_PM_least_70 rfl 0 rfl ?_
      refine mv_lload_n (pc := 71) (i := 3) de_PM_least_71 rfl 2 rfl ?_
      refine mv_lconst (pc := 72) (v := 0) de_PM_least_72 (by decide) ?_
      refine mv_lcmp (pc := 73) de_PM_least_73 ?_
      refine mv_if_ge (pc := 74) (tgt := 85) de_PM_least_74 (by decide) h49 (fun hc74 h74 => ?_) (fun hc74 h74 => ?_)
      · refine mv_lload_n (pc := 85) (i := 1) de_PM_least_85 rfl 1 rfl ?_
        refine mv_lload (pc := 86) de_PM_least_86 3 rfl ?_
        refine mv_ldiv (pc := 88) de_PM_least_88 h74 (fun hc_88 h88 => ?_)
        exact mv_sub [0, 2, 3] rfl (tb_PM_least_89 l D E B sa M0 M1 r N M v0 v3 v5 v0 (v1 / v5) h88)
      · refine mv_lload_n (pc := 77) (i := 1) de_PM_least_77 rfl 1 rfl ?_
        refine mv_lload (pc := 78) de_PM_least_78 3 rfl ?_
        refine mv_ldiv (pc := 80) de_PM_least_80 h74 (fun hc_80 h80 => ?_)
        refine mv_lneg (pc := 81) de_PM_least_81 ?_
        refine mv_goto (pc := 82) (tgt := 89) de_PM_least_82 (by decide) ?_
        exact mv_sub [0, 2, 3] rfl (tb_PM_least_89 l D E B sa M0 M1 r N M v0 v3 v5 v0 (-(v1 / v5)) h80)
    · refine mv_lload (pc := 52) de_PM_least_52 3 rfl ?_
      refine mv_lload (pc := 54) de_PM_least_54 4 rfl ?_
      refine mv_lrem (pc := 56) de_PM_least_56 h49 (fun hc_56 h56 => ?_)
      refine mv_lstore (pc := 57) (lv' := [(9, .long (v5 - v5 / v7 * v7)), (0, va_rf (some v0)), (1, .long v1), (3, .long v3), (5, .long v5), (7, .long v7)]) de_PM_least_57 (Nat.le_of_ble_eq_true rfl) rfl ?_
      refine mv_lload (pc := 59) de_PM_least_59 5 rfl ?_
      refine mv_lstore (pc := 61) (lv' := [(5, .long v7), (9, .long (v5 - v5 / v7 * v7)), (0, va_rf (some v0)), (1, .long v1), (3, .long v3), (7, .long v7)]) de_PM_least_61 (Nat.le_of_ble_eq_true rfl) rfl ?_
      refine mv_lload (pc := 63) de_PM_least_63 1 rfl ?_
      refine mv_lstore (pc := 65) (lv' := [(7, .long (v5 - v5 / v7 * v7)), (5, .long v7), (9, .long (v5 - v5 / v7 * v7)), (0, va_rf (some v0)), (1, .long v1), (3, .long v3)]) de_PM_least_65 (Nat.le_of_ble_eq_true rfl) rfl ?_
      refine mv_goto (pc := 67) (tgt := 45) de_PM_least_67 (by decide) ?_
      exact mv_sub [3, 4, 5, 1, 0] rfl (ih M v0 v1 v3 v7 (v5 - v5 / v7 * v7) h56)
set_option maxHeartbeats 4000000 in
set_option maxRecDepth 100000 in
theorem tb_PM_least_43 (l : Launch) (D : va_G) (E : Nat → ClassId) (B : Nat) (sa : (Nat → Nat) × Nat × (Nat → Int32)) (M0 M1 : mv_M) (r : Unit) (N : Nat) (M : mv_M) (v0 : Nat) (v1 : Int64) (v3 : Int64) (v5 : Int64) (s0 : Int64) (hJ : jb_PM_least_43 N M v0 v1 v3 v5 s0 = some (r, M1)) : mv_G (xg l D E B sa) kd_PM_least M0 M1 none M 43 [(0, va_rf (some v0)), (1, .long v1), (3, .long v3), (5, .long v5)] [.long s0] := by
  unfold jb_PM_least_43 at hJ
  refine mv_lstore (pc := 43) (lv' := [(7, .long s0), (0, va_rf (some v0)), (1, .long v1), (3, .long v3), (5, .long v5)]) de_PM_least_43 (Nat.le_of_ble_eq_true rfl) rfl ?_
  exact mv_sub [1, 2, 3, 4, 0] rfl (tb_PM_least_45 l D E B sa M0 M1 r N N M v0 v1 v3 v5 s0 hJ)
set_option maxHeartbeats 4000000 in
set_option maxRecDepth 100000 in
theorem tb_PM_least_29 (l : Launch) (D : va_G) (E : Nat → ClassId) (B : Nat) (sa : (Nat → Nat) × Nat × (Nat → Int32)) (M0 M1 : mv_M) (r : Unit) (N : Nat) (M : mv_M) (v0 : Nat) (v1 : Int64) (v3 : Int64) (s0 : Int64) (hJ : jb_PM_least_29 N M v0 v1 v3 s0 = some (r, M1)) : mv_G (xg l D E B sa) kd_PM_least M0 M1 none M 29 [(0, va_rf (some v0)), (1, .long v1), (3, .long v3)] [.long s0] := by
  unfold jb_PM_least_29 at hJ
  refine mv_lstore (pc := 29) (lv' := [(5, .long s0), (0, va_rf (some v0)), (1, .long v1), (3, .long v3)]) de_PM_least_29 (Nat.le_of_ble_eq_true rfl) rfl ?_
  refine mv_lload_n (pc := 31) (i := 3) de_PM_least_31 rfl 3 rfl ?_
  refine mv_lconst (pc := 32) (v := 0) de_PM_least_32 (by decide) ?_
  refine mv_lcmp (pc := 33) de_PM_least_33 ?_
  refine mv_if_ge (pc := 34) (tgt := 42) de_PM_least_34 (by decide) hJ (fun hc34 h34 => ?_) (fun hc34 h34 => ?_)
  · refine mv_lload_n (pc := 42) (i := 3) de_PM_least_42 rfl 3 rfl ?_
    exact mv_sub [1, 2, 3, 0] rfl (tb_PM_least_43 l D E B sa M0 M1 r N M v0 v1 v3 s0 v3 h34)
  · refine mv_lload_n (pc := 37) (i := 3) de_PM_least_37 rfl 3 rfl ?_
    refine mv_lneg (pc := 38) de_PM_least_38 ?_
    refine mv_goto (pc := 39) (tgt := 43) de_PM_least_39 (by decide) ?_
    exact mv_sub [1, 2, 3, 0] rfl (tb_PM_least_43 l D E B sa M0 M1 r N M v0 v1 v3 s0 (-v3) h34)
set_option maxHeartbeats 4000000 in
set_option maxRecDepth 100000 in
theorem tb_PM_least_0 (l : Launch) (D : va_G) (E : Nat → ClassId) (B : Nat) (sa : (Nat → Nat) × Nat × (Nat → Int32)) (M0 M1 : mv_M) (r : Unit) (N : Nat) (M : mv_M) (v0 : Nat) (v1 : Int64) (v3 : Int64) (hJ : jb_PM_least_0 N M v0 v1 v3 = some (r, M1)) : mv_G (xg l D E B sa) kd_PM_least M0 M1 none M 0 [(0, va_rf (some v0)), (1, .long v1), (3, .long v3)] [] := by
  unfold jb_PM_least_0 at hJ
  refine mv_lload_n (pc := 0) (i := 3) de_PM_least_0 rfl 2 rfl ?_
  refine mv_lconst (pc := 1) (v := 0) de_PM_least_1 (by decide) ?_
  refine mv_lcmp (pc := 2) de_PM_least_2 ?_
  refine mv_if_ne (pc := 3) (tgt := 17) de_PM_least_3 (by decide) hJ (fun hc3 h3 => ?_) (fun hc3 h3 => ?_)
  · refine mv_aload_n (pc := 6) (i := 0) de_PM_least_6 rfl 0 rfl ?_
    refine mv_lconst (pc := 7) (v := 0) de_PM_least_7 (by decide) ?_
    refine mv_put (pc := 8) (f := 0) (kc_1 l D E B sa) (Nat.le_of_ble_eq_true rfl) wt_4_80 rfl rfl rfl de_PM_least_8 h3 (fun Mm8 e8 h8 => ?_)
    refine mv_aload_n (pc := 11) (i := 0) de_PM_least_11 rfl 0 rfl ?_
    refine mv_lconst (pc := 12) (v := 0) de_PM_least_12 (by decide) ?_
    refine mv_put (pc := 13) (f := 1) (kc_1 l D E B sa) (Nat.le_of_ble_eq_true rfl) wt_4_81 rfl rfl rfl de_PM_least_13 h8 (fun Mm13 e13 h13 => ?_)
    exact mv_vret (pc := 16) rfl de_PM_least_16 h13
  · refine mv_lload_n (pc := 17) (i := 1) de_PM_least_17 rfl 1 rfl ?_
    refine mv_lconst (pc := 18) (v := 0) de_PM_least_18 (by decide) ?_
    refine mv_lcmp (pc := 19) de_PM_least_19 ?_
    refine mv_if_ge (pc := 20) (tgt := 28) de_PM_least_20 (by decide) h3 (fun hc20 h20 => ?_) (fun hc20 h20 => ?_)
    · refine mv_lload_n (pc := 28) (i := 1) de_PM_least_28 rfl 1 rfl ?_
      exact mv_sub [0, 1, 2] rfl (tb_PM_least_29 l D E B sa M0 M1 r N M v0 v1 v3 v1 h20)
    · refine mv_lload_n (pc := 23) (i := 1) de_PM_least_23 rfl 1 rfl ?_
      refine mv_lneg (pc := 24) de_PM_least_24 ?_
      refine mv_goto (pc := 25) (tgt := 29) de_PM_least_25 (by decide) ?_
      exact mv_sub [0, 1, 2] rfl (tb_PM_least_29 l D E B sa M0 M1 r N M v0 v1 v3 (-v1) h20)
theorem cm_PM_least (l : Launch) (D : va_G) (E : Nat → ClassId) (B : Nat) (sa : (Nat → Nat) × Nat × (Nat → Int32)) (N : Nat) (M : mv_M) (v0 : Nat) (v1 : Int64) (v3 : Int64) (r : Unit) (M1 : mv_M) (hJ : jf_PM_least N M v0 v1 v3 = some (r, M1)) : mv_Met (xg l D E B sa) yn_PM_least cd_PM_least 11 none 0 0 [va_rf (some v0), .long v1, .long v3] M none M1 :=
  mv_enter (by decide) (Nat.le_of_ble_eq_true rfl) (mv_sub (lv := [(0, va_rf (some v0)), (1, .long v1), (3, .long v3)]) [0, 1, 2] rfl (tb_PM_least_0 l D E B sa M M1 r N M v0 v1 v3 hJ))
