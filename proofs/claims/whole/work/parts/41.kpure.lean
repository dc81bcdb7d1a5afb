/-! ===== PlainLearner$Fractions.gcd(JJ)J ===== -/
def kb_Fr_gcd_79 (N : Nat) (s0 : Int64) : Option (Int64) :=
  some s0
def kb_Fr_gcd_66 (N : Nat) (v4 : Int64) : Option (Int64) :=
  if 0 ≤ (lg_cmp v4 1) then (kb_Fr_gcd_79 N v4) else
  kb_Fr_gcd_79 N 1
def kb_Fr_gcd_31 (N : Nat) : Nat → Int64 → Int64 → Int32 → Option (Int64)
  | 0, _, _, _ => none
  | n + 1, v4, v6, v8 =>
    if 100 ≤ v8 then (kb_Fr_gcd_66 N v4) else
    if (lg_cmp v6 0) = 0 then (kb_Fr_gcd_66 N v4) else
    if v6 = 0 then none else
    kb_Fr_gcd_31 N n v6 (v4 - v4 / v6 * v6) (v8 + 1)
def kb_Fr_gcd_26 (N : Nat) (v4 : Int64) (s0 : Int64) : Option (Int64) :=
  kb_Fr_gcd_31 N N v4 s0 0
def kb_Fr_gcd_12 (N : Nat) (v2 : Int64) (s0 : Int64) : Option (Int64) :=
  if 0 ≤ (lg_cmp v2 0) then (kb_Fr_gcd_26 N s0 v2) else
  kb_Fr_gcd_26 N s0 (-v2)
def kb_Fr_gcd_0 (N : Nat) (v0 : Int64) (v2 : Int64) : Option (Int64) :=
  if 0 ≤ (lg_cmp v0 0) then (kb_Fr_gcd_12 N v2 v0) else
  kb_Fr_gcd_12 N v2 (-v0)
def kf_Fr_gcd (N : Nat) (v0 : Int64) (v2 : Int64) : Option (Int64) := kb_Fr_gcd_0 N  v0 v2
set_option maxHeartbeats 4000000 in
theorem lb_Fr_gcd_79 (M : mv_M) (N : Nat)  (s0 : Int64) : jb_Fr_gcd_79 N M s0 = (kb_Fr_gcd_79 N  s0).map (fun q => (q, M)) := by
  unfold jb_Fr_gcd_79 kb_Fr_gcd_79
  rfl
set_option maxHeartbeats 4000000 in
theorem lb_Fr_gcd_66 (M : mv_M) (N : Nat)  (v4 : Int64) : jb_Fr_gcd_66 N M v4 = (kb_Fr_gcd_66 N  v4).map (fun q => (q, M)) := by
  unfold jb_Fr_gcd_66 kb_Fr_gcd_66
  refine km_ite (fun _ => ?_) (fun _ => ?_)
  · exact lb_Fr_gcd_79 M N _
  · exact lb_Fr_gcd_79 M N _
set_option maxHeartbeats 4000000 in
theorem lb_Fr_gcd_31 (M : mv_M) (N : Nat) : ∀ (n : Nat) (v4 : Int64) (v6 : Int64) (v8 : Int32), jb_Fr_gcd_31 N n M v4 v6 v8 = (kb_Fr_gcd_31 N n  v4 v6 v8).map (fun q => (q, M)) := by
  intro n
  induction n with
  | zero => intros; rfl
  | succ n ih =>
    intro v4 v6 v8
    rw [jb_Fr_gcd_31, kb_Fr_gcd_31]
    refine km_ite (fun _ => ?_) (fun _ => ?_)
    · exact lb_Fr_gcd_66 M N _
    · refine km_ite (fun _ => ?_) (fun _ => ?_)
      · exact lb_Fr_gcd_66 M N _
      · refine km_ite (fun _ => rfl) (fun _ => ?_)
        exact ih _ _ _
set_option maxHeartbeats 4000000 in
theorem lb_Fr_gcd_26 (M : mv_M) (N : Nat)  (v4 : Int64) (s0 : Int64) : jb_Fr_gcd_26 N M v4 s0 = (kb_Fr_gcd_26 N  v4 s0).map (fun q => (q, M)) := by
  unfold jb_Fr_gcd_26 kb_Fr_gcd_26
  exact lb_Fr_gcd_31 M N N _ _ _
set_option maxHeartbeats 4000000 in
theorem lb_Fr_gcd_12 (M : mv_M) (N : Nat)  (v2 : Int64) (s0 : Int64) : jb_Fr_gcd_12 N M v2 s0 = (kb_Fr_gcd_12 N  v2 s0).map (fun q => (q, M)) := by
  unfold jb_Fr_gcd_12 kb_Fr_gcd_12
  refine km_ite (fun _ => ?_) (fun _ => ?_)
  · exact lb_Fr_gcd_26 M N _ _
  · exact lb_Fr_gcd_26 M N _ _
set_option maxHeartbeats 4000000 in
theorem lb_Fr_gcd_0 (M : mv_M) (N : Nat)  (v0 : Int64) (v2 : Int64) : jb_Fr_gcd_0 N M v0 v2 = (kb_Fr_gcd_0 N  v0 v2).map (fun q => (q, M)) := by
  unfold jb_Fr_gcd_0 kb_Fr_gcd_0
  refine km_ite (fun _ => ?_) (fun _ => ?_)
  · exact lb_Fr_gcd_12 M N _ _
  · exact lb_Fr_gcd_12 M N _ _
theorem lf_Fr_gcd (M : mv_M) (N : Nat) (v0 : Int64) (v2 : Int64) : jf_Fr_gcd N M v0 v2 = (kf_Fr_gcd N v0 v2).map (fun q => (q, M)) := lb_Fr_gcd_0 M N  v0 v2
/-! ===== PlainLearner$Fractions.fit(JJ)J ===== -/
def kb_Fr_fit_30 (N : Nat) : Option (Int64) :=
  some 0
def kb_Fr_fit_0 (N : Nat) (v0 : Int64) (v2 : Int64) : Option (Int64) :=
  if 0 < (lg_cmp v0 2147483647) then (kb_Fr_fit_30 N) else
  if (lg_cmp v0 (-2147483647)) < 0 then (kb_Fr_fit_30 N) else
  if 0 < (lg_cmp v2 2147483647) then (kb_Fr_fit_30 N) else
  if 0 ≤ (lg_cmp v2 1) then (some ((v0 <<< ((32 : Int32).toInt64 &&& 63)) ||| v2)) else
  kb_Fr_fit_30 N
def kf_Fr_fit (N : Nat) (v0 : Int64) (v2 : Int64) : Option (Int64) := kb_Fr_fit_0 N  v0 v2
set_option maxHeartbeats 4000000 in
theorem lb_Fr_fit_30 (M : mv_M) (N : Nat)  : jb_Fr_fit_30 N M = (kb_Fr_fit_30 N ).map (fun q => (q, M)) := by
  unfold jb_Fr_fit_30 kb_Fr_fit_30
  rfl
set_option maxHeartbeats 4000000 in
theorem lb_Fr_fit_0 (M : mv_M) (N : Nat)  (v0 : Int64) (v2 : Int64) : jb_Fr_fit_0 N M v0 v2 = (kb_Fr_fit_0 N  v0 v2).map (fun q => (q, M)) := by
  unfold jb_Fr_fit_0 kb_Fr_fit_0
  refine km_ite (fun _ => ?_) (fun _ => ?_)
  · exact lb_Fr_fit_30 M N
  · refine km_ite (fun _ => ?_) (fun _ => ?_)
    · exact lb_Fr_fit_30 M N
    · refine km_ite (fun _ => ?_) (fun _ => ?_)
      · exact lb_Fr_fit_30 M N
      · refine km_ite (fun _ => ?_) (fun _ => ?_)
        · rfl
        · exact lb_Fr_fit_30 M N
theorem lf_Fr_fit (M : mv_M) (N : Nat) (v0 : Int64) (v2 : Int64) : jf_Fr_fit N M v0 v2 = (kf_Fr_fit N v0 v2).map (fun q => (q, M)) := lb_Fr_fit_0 M N  v0 v2
/-! ===== PlainLearner$Fractions.of(JJ)J ===== -/
def kb_Fr_of_48 (N : Nat) (s0 : Int64) : Option (Int64) :=
  some s0
def kb_Fr_of_0 (N : Nat) (v0 : Int64) (v2 : Int64) : Option (Int64) :=
  if (lg_cmp v2 0) = 0 then (some 0) else
  Option.bind (kf_Fr_gcd N v0 v2) fun r10 =>
  if 0 ≤ (lg_cmp v2 0) then (if r10 = 0 then none else
  if r10 = 0 then none else
  Option.bind (kf_Fr_fit N (v0 / r10) (v2 / r10)) fun r45 =>
  kb_Fr_of_48 N r45) else
  if r10 = 0 then none else
  if r10 = 0 then none else
  Option.bind (kf_Fr_fit N (-(v0 / r10)) (-(v2 / r10))) fun r31 =>
  kb_Fr_of_48 N r31
def kf_Fr_of (N : Nat) (v0 : Int64) (v2 : Int64) : Option (Int64) := kb_Fr_of_0 N  v0 v2
set_option maxHeartbeats 4000000 in
theorem lb_Fr_of_48 (M : mv_M) (N : Nat)  (s0 : Int64) : jb_Fr_of_48 N M s0 = (kb_Fr_of_48 N  s0).map (fun q => (q, M)) := by
  unfold jb_Fr_of_48 kb_Fr_of_48
  rfl
set_option maxHeartbeats 4000000 in
theorem lb_Fr_of_0 (M : mv_M) (N : Nat)  (v0 : Int64) (v2 : Int64) : jb_Fr_of_0 N M v0 v2 = (kb_Fr_of_0 N  v0 v2).map (fun q => (q, M)) := by
  unfold jb_Fr_of_0 kb_Fr_of_0
  refine km_ite (fun _ => ?_) (fun _ => ?_)
  · rfl
  · try rw [lf_Fr_gcd]
    refine km_callP (fun r10 => ?_)
    refine km_ite (fun _ => ?_) (fun _ => ?_)
    · refine km_ite (fun _ => rfl) (fun _ => ?_)
      refine km_ite (fun _ => rfl) (fun _ => ?_)
      try rw [lf_Fr_fit]
      refine km_callP (fun r45 => ?_)
      exact lb_Fr_of_48 M N _
    · refine km_ite (fun _ => rfl) (fun _ => ?_)
      refine km_ite (fun _ => rfl) (fun _ => ?_)
      try rw [lf_Fr_fit]
      refine km_callP (fun r31 => ?_)
      exact lb_Fr_of_48 M N _
theorem lf_Fr_of (M : mv_M) (N : Nat) (v0 : Int64) (v2 : Int64) : jf_Fr_of N M v0 v2 = (kf_Fr_of N v0 v2).map (fun q => (q, M)) := lb_Fr_of_0 M N  v0 v2
/-! ===== PlainLearner$Shape.isLength(I)Z ===== -/
def kb_Sh_isLength_16 (N : Nat) (s0 : Int32) : Option (Int32) :=
  if s0 = 0 ∨ s0 = 1 then some s0 else none
def kb_Sh_isLength_15 (N : Nat) : Option (Int32) :=
  kb_Sh_isLength_16 N 0
def kb_Sh_isLength_0 (N : Nat) (v0 : Int32) : Option (Int32) :=
  if v0 < 1 then (kb_Sh_isLength_15 N) else
  if 64 < v0 then (kb_Sh_isLength_15 N) else
  kb_Sh_isLength_16 N 1
def kf_Sh_isLength (N : Nat) (v0 : Int32) : Option (Int32) := kb_Sh_isLength_0 N  v0
set_option maxHeartbeats 4000000 in
theorem lb_Sh_isLength_16 (M : mv_M) (N : Nat)  (s0 : Int32) : jb_Sh_isLength_16 N M s0 = (kb_Sh_isLength_16 N  s0).map (fun q => (q, M)) := by
  unfold jb_Sh_isLength_16 kb_Sh_isLength_16
  refine km_ite (fun _ => rfl) (fun _ => rfl)
set_option maxHeartbeats 4000000 in
theorem lb_Sh_isLength_15 (M : mv_M) (N : Nat)  : jb_Sh_isLength_15 N M = (kb_Sh_isLength_15 N ).map (fun q => (q, M)) := by
  unfold jb_Sh_isLength_15 kb_Sh_isLength_15
  exact lb_Sh_isLength_16 M N _
set_option maxHeartbeats 4000000 in
theorem lb_Sh_isLength_0 (M : mv_M) (N : Nat)  (v0 : Int32) : jb_Sh_isLength_0 N M v0 = (kb_Sh_isLength_0 N  v0).map (fun q => (q, M)) := by
  unfold jb_Sh_isLength_0 kb_Sh_isLength_0
  refine km_ite (fun _ => ?_) (fun _ => ?_)
  · exact lb_Sh_isLength_15 M N
  · refine km_ite (fun _ => ?_) (fun _ => ?_)
    · exact lb_Sh_isLength_15 M N
    · exact lb_Sh_isLength_16 M N _
theorem lf_Sh_isLength (M : mv_M) (N : Nat) (v0 : Int32) : jf_Sh_isLength N M v0 = (kf_Sh_isLength N v0).map (fun q => (q, M)) := lb_Sh_isLength_0 M N  v0
/-! ===== java/lang/Math.min(II)I ===== -/
def kb_Jm_min0_10 (N : Nat) (s0 : Int32) : Option (Int32) :=
  some s0
def kb_Jm_min0_0 (N : Nat) (v0 : Int32) (v1 : Int32) : Option (Int32) :=
  if v1 < v0 then (kb_Jm_min0_10 N v1) else
  kb_Jm_min0_10 N v0
def kf_Jm_min0 (N : Nat) (v0 : Int32) (v1 : Int32) : Option (Int32) := kb_Jm_min0_0 N  v0 v1
set_option maxHeartbeats 4000000 in
theorem lb_Jm_min0_10 (M : mv_M) (N : Nat)  (s0 : Int32) : jb_Jm_min0_10 N M s0 = (kb_Jm_min0_10 N  s0).map (fun q => (q, M)) := by
  unfold jb_Jm_min0_10 kb_Jm_min0_10
  rfl
set_option maxHeartbeats 4000000 in
theorem lb_Jm_min0_0 (M : mv_M) (N : Nat)  (v0 : Int32) (v1 : Int32) : jb_Jm_min0_0 N M v0 v1 = (kb_Jm_min0_0 N  v0 v1).map (fun q => (q, M)) := by
  unfold jb_Jm_min0_0 kb_Jm_min0_0
  refine km_ite (fun _ => ?_) (fun _ => ?_)
  · exact lb_Jm_min0_10 M N _
  · exact lb_Jm_min0_10 M N _
theorem lf_Jm_min0 (M : mv_M) (N : Nat) (v0 : Int32) (v1 : Int32) : jf_Jm_min0 N M v0 v1 = (kf_Jm_min0 N v0 v1).map (fun q => (q, M)) := lb_Jm_min0_0 M N  v0 v1
/-! ===== PlainLearner$Ops.isOp(I)Z ===== -/
def kb_Op_isOp_15 (N : Nat) (s0 : Int32) : Option (Int32) :=
  if s0 = 0 ∨ s0 = 1 then some s0 else none
def kb_Op_isOp_14 (N : Nat) : Option (Int32) :=
  kb_Op_isOp_15 N 0
def kb_Op_isOp_0 (N : Nat) (v0 : Int32) : Option (Int32) :=
  if v0 < 0 then (kb_Op_isOp_14 N) else
  if 15 < v0 then (kb_Op_isOp_14 N) else
  kb_Op_isOp_15 N 1
def kf_Op_isOp (N : Nat) (v0 : Int32) : Option (Int32) := kb_Op_isOp_0 N  v0
set_option maxHeartbeats 4000000 in
theorem lb_Op_isOp_15 (M : mv_M) (N : Nat)  (s0 : Int32) : jb_Op_isOp_15 N M s0 = (kb_Op_isOp_15 N  s0).map (fun q => (q, M)) := by
  unfold jb_Op_isOp_15 kb_Op_isOp_15
  refine km_ite (fun _ => rfl) (fun _ => rfl)
set_option maxHeartbeats 4000000 in
theorem lb_Op_isOp_14 (M : mv_M) (N : Nat)  : jb_Op_isOp_14 N M = (kb_Op_isOp_14 N ).map (fun q => (q, M)) := by
  unfold jb_Op_isOp_14 kb_Op_isOp_14
  exact lb_Op_isOp_15 M N _
set_option maxHeartbeats 4000000 in
theorem lb_Op_isOp_0 (M : mv_M) (N : Nat)  (v0 : Int32) : jb_Op_isOp_0 N M v0 = (kb_Op_isOp_0 N  v0).map (fun q => (q, M)) := by
  unfold jb_Op_isOp_0 kb_Op_isOp_0
  refine km_ite (fun _ => ?_) (fun _ => ?_)
  · exact lb_Op_isOp_14 M N
  · refine km_ite (fun _ => ?_) (fun _ => ?_)
    · exact lb_Op_isOp_14 M N
    · exact lb_Op_isOp_15 M N _
theorem lf_Op_isOp (M : mv_M) (N : Nat) (v0 : Int32) : jf_Op_isOp N M v0 = (kf_Op_isOp N v0).map (fun q => (q, M)) := lb_Op_isOp_0 M N  v0
/-! ===== PlainLearner$Ops.isOfTwo(I)Z ===== -/
def kb_Op_isOfTwo_10 (N : Nat) (s0 : Int32) : Option (Int32) :=
  if s0 = 0 ∨ s0 = 1 then some s0 else none
def kb_Op_isOfTwo_0 (N : Nat) (v0 : Int32) : Option (Int32) :=
  if 4 < v0 then (kb_Op_isOfTwo_10 N 0) else
  kb_Op_isOfTwo_10 N 1
def kf_Op_isOfTwo (N : Nat) (v0 : Int32) : Option (Int32) := kb_Op_isOfTwo_0 N  v0
set_option maxHeartbeats 4000000 in
theorem lb_Op_isOfTwo_10 (M : mv_M) (N : Nat)  (s0 : Int32) : jb_Op_isOfTwo_10 N M s0 = (kb_Op_isOfTwo_10 N  s0).map (fun q => (q, M)) := by
  unfold jb_Op_isOfTwo_10 kb_Op_isOfTwo_10
  refine km_ite (fun _ => rfl) (fun _ => rfl)
set_option maxHeartbeats 4000000 in
theorem lb_Op_isOfTwo_0 (M : mv_M) (N : Nat)  (v0 : Int32) : jb_Op_isOfTwo_0 N M v0 = (kb_Op_isOfTwo_0 N  v0).map (fun q => (q, M)) := by
  unfold jb_Op_isOfTwo_0 kb_Op_isOfTwo_0
  refine km_ite (fun _ => ?_) (fun _ => ?_)
  · exact lb_Op_isOfTwo_10 M N _
  · exact lb_Op_isOfTwo_10 M N _
theorem lf_Op_isOfTwo (M : mv_M) (N : Nat) (v0 : Int32) : jf_Op_isOfTwo N M v0 = (kf_Op_isOfTwo N v0).map (fun q => (q, M)) := lb_Op_isOfTwo_0 M N  v0
/-! ===== PlainLearner$Shape.spread(II)Z ===== -/
def kb_Sh_spread_20 (N : Nat) (s0 : Int32) : Option (Int32) :=
  if s0 = 0 ∨ s0 = 1 then some s0 else none
def kb_Sh_spread_15 (N : Nat) : Option (Int32) :=
  kb_Sh_spread_20 N 1
def kb_Sh_spread_0 (N : Nat) (v0 : Int32) (v1 : Int32) : Option (Int32) :=
  if v0 = v1 then (kb_Sh_spread_15 N) else
  if v0 = 1 then (kb_Sh_spread_15 N) else
  if v1 = 1 then (kb_Sh_spread_15 N) else
  kb_Sh_spread_20 N 0
def kf_Sh_spread (N : Nat) (v0 : Int32) (v1 : Int32) : Option (Int32) := kb_Sh_spread_0 N  v0 v1
set_option maxHeartbeats 4000000 in
theorem lb_Sh_spread_20 (M : mv_M) (N : Nat)  (s0 : Int32) : jb_Sh_spread_20 N M s0 = (kb_Sh_spread_20 N  s0).map (fun q => (q, M)) := by
  unfold jb_Sh_spread_20 kb_Sh_spread_20
  refine km_ite (fun _ => rfl) (fun _ => rfl)
set_option maxHeartbeats 4000000 in
theorem lb_Sh_spread_15 (M : mv_M) (N : Nat)  : jb_Sh_spread_15 N M = (kb_Sh_spread_15 N ).map (fun q => (q, M)) := by
  unfold jb_Sh_spread_15 kb_Sh_spread_15
  exact lb_Sh_spread_20 M N _
set_option maxHeartbeats 4000000 in
theorem lb_Sh_spread_0 (M : mv_M) (N : Nat)  (v0 : Int32) (v1 : Int32) : jb_Sh_spread_0 N M v0 v1 = (kb_Sh_spread_0 N  v0 v1).map (fun q => (q, M)) := by
  unfold jb_Sh_spread_0 kb_Sh_spread_0
  refine km_ite (fun _ => ?_) (fun _ => ?_)
  · exact lb_Sh_spread_15 M N
  · refine km_ite (fun _ => ?_) (fun _ => ?_)
    · exact lb_Sh_spread_15 M N
    · refine km_ite (fun _ => ?_) (fun _ => ?_)
      · exact lb_Sh_spread_15 M N
      · exact lb_Sh_spread_20 M N _
theorem lf_Sh_spread (M : mv_M) (N : Nat) (v0 : Int32) (v1 : Int32) : jf_Sh_spread N M v0 v1 = (kf_Sh_spread N v0 v1).map (fun q => (q, M)) := lb_Sh_spread_0 M N  v0 v1
/-! ===== java/lang/Math.max(II)I ===== -/
def kb_Jm_max_10 (N : Nat) (s0 : Int32) : Option (Int32) :=
  some s0
def kb_Jm_max_0 (N : Nat) (v0 : Int32) (v1 : Int32) : Option (Int32) :=
  if v0 < v1 then (kb_Jm_max_10 N v1) else
  kb_Jm_max_10 N v0
def kf_Jm_max (N : Nat) (v0 : Int32) (v1 : Int32) : Option (Int32) := kb_Jm_max_0 N  v0 v1
set_option maxHeartbeats 4000000 in
theorem lb_Jm_max_10 (M : mv_M) (N : Nat)  (s0 : Int32) : jb_Jm_max_10 N M s0 = (kb_Jm_max_10 N  s0).map (fun q => (q, M)) := by
  unfold jb_Jm_max_10 kb_Jm_max_10
  rfl
set_option maxHeartbeats 4000000 in
theorem lb_Jm_max_0 (M : mv_M) (N : Nat)  (v0 : Int32) (v1 : Int32) : jb_Jm_max_0 N M v0 v1 = (kb_Jm_max_0 N  v0 v1).map (fun q => (q, M)) := by
  unfold jb_Jm_max_0 kb_Jm_max_0
  refine km_ite (fun _ => ?_) (fun _ => ?_)
  · exact lb_Jm_max_10 M N _
  · exact lb_Jm_max_10 M N _
theorem lf_Jm_max (M : mv_M) (N : Nat) (v0 : Int32) (v1 : Int32) : jf_Jm_max N M v0 v1 = (kf_Jm_max N v0 v1).map (fun q => (q, M)) := lb_Jm_max_0 M N  v0 v1
/-! ===== PlainLearner.isSide(I)Z ===== -/
def kb_PL_isSide_14 (N : Nat) (s0 : Int32) : Option (Int32) :=
  if s0 = 0 ∨ s0 = 1 then some s0 else none
def kb_PL_isSide_9 (N : Nat) : Option (Int32) :=
  kb_PL_isSide_14 N 1
def kb_PL_isSide_0 (N : Nat) (v0 : Int32) : Option (Int32) :=
  if v0 = 0 then (kb_PL_isSide_9 N) else
  if v0 = 1 then (kb_PL_isSide_9 N) else
  kb_PL_isSide_14 N 0
def kf_PL_isSide (N : Nat) (v0 : Int32) : Option (Int32) := kb_PL_isSide_0 N  v0
set_option maxHeartbeats 4000000 in
theorem lb_PL_isSide_14 (M : mv_M) (N : Nat)  (s0 : Int32) : jb_PL_isSide_14 N M s0 = (kb_PL_isSide_14 N  s0).map (fun q => (q, M)) := by
  unfold jb_PL_isSide_14 kb_PL_isSide_14
  refine km_ite (fun _ => rfl) (fun _ => rfl)
set_option maxHeartbeats 4000000 in
theorem lb_PL_isSide_9 (M : mv_M) (N : Nat)  : jb_PL_isSide_9 N M = (kb_PL_isSide_9 N ).map (fun q => (q, M)) := by
  unfold jb_PL_isSide_9 kb_PL_isSide_9
  exact lb_PL_isSide_14 M N _
set_option maxHeartbeats 4000000 in
theorem lb_PL_isSide_0 (M : mv_M) (N : Nat)  (v0 : Int32) : jb_PL_isSide_0 N M v0 = (kb_PL_isSide_0 N  v0).map (fun q => (q, M)) := by
  unfold jb_PL_isSide_0 kb_PL_isSide_0
  refine km_ite (fun _ => ?_) (fun _ => ?_)
  · exact lb_PL_isSide_9 M N
  · refine km_ite (fun _ => ?_) (fun _ => ?_)
    · exact lb_PL_isSide_9 M N
    · exact lb_PL_isSide_14 M N _
theorem lf_PL_isSide (M : mv_M) (N : Nat) (v0 : Int32) : jf_PL_isSide N M v0 = (kf_PL_isSide N v0).map (fun q => (q, M)) := lb_PL_isSide_0 M N  v0
/-! ===== PlainLearner$Fractions.topOf(J)J ===== -/
def kb_Fr_topOf_0 (N : Nat) (v0 : Int64) : Option (Int64) :=
  some (v0 >>> ((32 : Int32).toInt64 &&& 63))
def kf_Fr_topOf (N : Nat) (v0 : Int64) : Option (Int64) := kb_Fr_topOf_0 N  v0
set_option maxHeartbeats 4000000 in
theorem lb_Fr_topOf_0 (M : mv_M) (N : Nat)  (v0 : Int64) : jb_Fr_topOf_0 N M v0 = (kb_Fr_topOf_0 N  v0).map (fun q => (q, M)) := by
  unfold jb_Fr_topOf_0 kb_Fr_topOf_0
  rfl
theorem lf_Fr_topOf (M : mv_M) (N : Nat) (v0 : Int64) : jf_Fr_topOf N M v0 = (kf_Fr_topOf N v0).map (fun q => (q, M)) := lb_Fr_topOf_0 M N  v0
/-! ===== PlainLearner$Fractions.bottomOf(J)J ===== -/
def kb_Fr_bottomOf_0 (N : Nat) (v0 : Int64) : Option (Int64) :=
  some (v0 &&& 2147483647)
def kf_Fr_bottomOf (N : Nat) (v0 : Int64) : Option (Int64) := kb_Fr_bottomOf_0 N  v0
set_option maxHeartbeats 4000000 in
theorem lb_Fr_bottomOf_0 (M : mv_M) (N : Nat)  (v0 : Int64) : jb_Fr_bottomOf_0 N M v0 = (kb_Fr_bottomOf_0 N  v0).map (fun q => (q, M)) := by
  unfold jb_Fr_bottomOf_0 kb_Fr_bottomOf_0
  rfl
theorem lf_Fr_bottomOf (M : mv_M) (N : Nat) (v0 : Int64) : jf_Fr_bottomOf N M v0 = (kf_Fr_bottomOf N v0).map (fun q => (q, M)) := lb_Fr_bottomOf_0 M N  v0
/-! ===== java/lang/Long.compare(JJ)I ===== -/
def kb_Jl_compare_21 (N : Nat) (s0 : Int32) : Option (Int32) :=
  some s0
def kb_Jl_compare_0 (N : Nat) (v0 : Int64) (v2 : Int64) : Option (Int32) :=
  if 0 ≤ (lg_cmp v0 v2) then (if (lg_cmp v0 v2) = 0 then (kb_Jl_compare_21 N 0) else
  kb_Jl_compare_21 N 1) else
  kb_Jl_compare_21 N (-1)
def kf_Jl_compare (N : Nat) (v0 : Int64) (v2 : Int64) : Option (Int32) := kb_Jl_compare_0 N  v0 v2
set_option maxHeartbeats 4000000 in
theorem lb_Jl_compare_21 (M : mv_M) (N : Nat)  (s0 : Int32) : jb_Jl_compare_21 N M s0 = (kb_Jl_compare_21 N  s0).map (fun q => (q, M)) := by
  unfold jb_Jl_compare_21 kb_Jl_compare_21
  rfl
set_option maxHeartbeats 4000000 in
theorem lb_Jl_compare_0 (M : mv_M) (N : Nat)  (v0 : Int64) (v2 : Int64) : jb_Jl_compare_0 N M v0 v2 = (kb_Jl_compare_0 N  v0 v2).map (fun q => (q, M)) := by
  unfold jb_Jl_compare_0 kb_Jl_compare_0
  refine km_ite (fun _ => ?_) (fun _ => ?_)
  · refine km_ite (fun _ => ?_) (fun _ => ?_)
    · exact lb_Jl_compare_21 M N _
    · exact lb_Jl_compare_21 M N _
  · exact lb_Jl_compare_21 M N _
theorem lf_Jl_compare (M : mv_M) (N : Nat) (v0 : Int64) (v2 : Int64) : jf_Jl_compare N M v0 v2 = (kf_Jl_compare N v0 v2).map (fun q => (q, M)) := lb_Jl_compare_0 M N  v0 v2
/-! ===== PlainLearner$Fractions.compare(JJ)I ===== -/
def kb_Fr_compare_0 (N : Nat) (v0 : Int64) (v2 : Int64) : Option (Int32) :=
  Option.bind (kf_Fr_topOf N v0) fun r1 =>
  Option.bind (kf_Fr_bottomOf N v2) fun r5 =>
  Option.bind (kf_Fr_topOf N v2) fun r10 =>
  Option.bind (kf_Fr_bottomOf N v0) fun r14 =>
  Option.bind (kf_Jl_compare N (r1 * r5) (r10 * r14)) fun r18 =>
  some r18
def kf_Fr_compare (N : Nat) (v0 : Int64) (v2 : Int64) : Option (Int32) := kb_Fr_compare_0 N  v0 v2
set_option maxHeartbeats 4000000 in
theorem lb_Fr_compare_0 (M : mv_M) (N : Nat)  (v0 : Int64) (v2 : Int64) : jb_Fr_compare_0 N M v0 v2 = (kb_Fr_compare_0 N  v0 v2).map (fun q => (q, M)) := by
  unfold jb_Fr_compare_0 kb_Fr_compare_0
  try rw [lf_Fr_topOf]
  refine km_callP (fun r1 => ?_)
  try rw [lf_Fr_bottomOf]
  refine km_callP (fun r5 => ?_)
  try rw [lf_Fr_topOf]
  refine km_callP (fun r10 => ?_)
  try rw [lf_Fr_bottomOf]
  refine km_callP (fun r14 => ?_)
  try rw [lf_Jl_compare]
  refine km_callP (fun r18 => ?_)
  rfl
theorem lf_Fr_compare (M : mv_M) (N : Nat) (v0 : Int64) (v2 : Int64) : jf_Fr_compare N M v0 v2 = (kf_Fr_compare N v0 v2).map (fun q => (q, M)) := lb_Fr_compare_0 M N  v0 v2
/-! ===== PlainLearner$Fractions.inverse(J)J ===== -/
def kb_Fr_inverse_42 (N : Nat) (s0 : Int64) : Option (Int64) :=
  some s0
def kb_Fr_inverse_0 (N : Nat) (v0 : Int64) : Option (Int64) :=
  Option.bind (kf_Fr_topOf N v0) fun r1 =>
  Option.bind (kf_Fr_bottomOf N v0) fun r6 =>
  if (lg_cmp r1 0) = 0 then (some 0) else
  if 0 ≤ (lg_cmp r1 0) then (Option.bind (kf_Fr_fit N r6 r1) fun r39 =>
  kb_Fr_inverse_42 N r39) else
  Option.bind (kf_Fr_fit N (-r6) (-r1)) fun r30 =>
  kb_Fr_inverse_42 N r30
def kf_Fr_inverse (N : Nat) (v0 : Int64) : Option (Int64) := kb_Fr_inverse_0 N  v0
set_option maxHeartbeats 4000000 in
theorem lb_Fr_inverse_42 (M : mv_M) (N : Nat)  (s0 : Int64) : jb_Fr_inverse_42 N M s0 = (kb_Fr_inverse_42 N  s0).map (fun q => (q, M)) := by
  unfold jb_Fr_inverse_42 kb_Fr_inverse_42
  rfl
set_option maxHeartbeats 4000000 in
theorem lb_Fr_inverse_0 (M : mv_M) (N : Nat)  (v0 : Int64) : jb_Fr_inverse_0 N M v0 = (kb_Fr_inverse_0 N  v0).map (fun q => (q, M)) := by
  unfold jb_Fr_inverse_0 kb_Fr_inverse_0
  try rw [lf_Fr_topOf]
  refine km_callP (fun r1 => ?_)
  try rw [lf_Fr_bottomOf]
  refine km_callP (fun r6 => ?_)
  refine km_ite (fun _ => ?_) (fun _ => ?_)
  · rfl
  · refine km_ite (fun _ => ?_) (fun _ => ?_)
    · try rw [lf_Fr_fit]
      refine km_callP (fun r39 => ?_)
      exact lb_Fr_inverse_42 M N _
    · try rw [lf_Fr_fit]
      refine km_callP (fun r30 => ?_)
      exact lb_Fr_inverse_42 M N _
theorem lf_Fr_inverse (M : mv_M) (N : Nat) (v0 : Int64) : jf_Fr_inverse N M v0 = (kf_Fr_inverse N v0).map (fun q => (q, M)) := lb_Fr_inverse_0 M N  v0
/-! ===== PlainLearner$Fractions.whole(I)J ===== -/
def kb_Fr_whole_0 (N : Nat) (v0 : Int32) : Option (Int64) :=
  Option.bind (kf_Fr_fit N v0.toInt64 1) fun r3 =>
  some r3
def kf_Fr_whole (N : Nat) (v0 : Int32) : Option (Int64) := kb_Fr_whole_0 N  v0
set_option maxHeartbeats 4000000 in
theorem lb_Fr_whole_0 (M : mv_M) (N : Nat)  (v0 : Int32) : jb_Fr_whole_0 N M v0 = (kb_Fr_whole_0 N  v0).map (fun q => (q, M)) := by
  unfold jb_Fr_whole_0 kb_Fr_whole_0
  try rw [lf_Fr_fit]
  refine km_callP (fun r3 => ?_)
  rfl
theorem lf_Fr_whole (M : mv_M) (N : Nat) (v0 : Int32) : jf_Fr_whole N M v0 = (kf_Fr_whole N v0).map (fun q => (q, M)) := lb_Fr_whole_0 M N  v0
/-! ===== PlainLearner$Fractions.sign(J)I ===== -/
def kb_Fr_sign_27 (N : Nat) (s0 : Int32) : Option (Int32) :=
  some s0
def kb_Fr_sign_0 (N : Nat) (v0 : Int64) : Option (Int32) :=
  Option.bind (kf_Fr_topOf N v0) fun r1 =>
  if (lg_cmp r1 0) ≤ 0 then (Option.bind (kf_Fr_topOf N v0) fun r14 =>
  if 0 ≤ (lg_cmp r14 0) then (kb_Fr_sign_27 N 0) else
  kb_Fr_sign_27 N (-1)) else
  kb_Fr_sign_27 N 1
def kf_Fr_sign (N : Nat) (v0 : Int64) : Option (Int32) := kb_Fr_sign_0 N  v0
set_option maxHeartbeats 4000000 in
theorem lb_Fr_sign_27 (M : mv_M) (N : Nat)  (s0 : Int32) : jb_Fr_sign_27 N M s0 = (kb_Fr_sign_27 N  s0).map (fun q => (q, M)) := by
  unfold jb_Fr_sign_27 kb_Fr_sign_27
  rfl
set_option maxHeartbeats 4000000 in
theorem lb_Fr_sign_0 (M : mv_M) (N : Nat)  (v0 : Int64) : jb_Fr_sign_0 N M v0 = (kb_Fr_sign_0 N  v0).map (fun q => (q, M)) := by
  unfold jb_Fr_sign_0 kb_Fr_sign_0
  try rw [lf_Fr_topOf]
  refine km_callP (fun r1 => ?_)
  refine km_ite (fun _ => ?_) (fun _ => ?_)
  · try rw [lf_Fr_topOf]
    refine km_callP (fun r14 => ?_)
    refine km_ite (fun _ => ?_) (fun _ => ?_)
    · exact lb_Fr_sign_27 M N _
    · exact lb_Fr_sign_27 M N _
  · exact lb_Fr_sign_27 M N _
theorem lf_Fr_sign (M : mv_M) (N : Nat) (v0 : Int64) : jf_Fr_sign N M v0 = (kf_Fr_sign N v0).map (fun q => (q, M)) := lb_Fr_sign_0 M N  v0
/-! ===== PlainLearner$Fractions.add(JJ)J ===== -/
def kb_Fr_add_12 (N : Nat) : Option (Int64) :=
  some 0
def kb_Fr_add_37 (N : Nat) (s0 : Int64) : Option (Int64) :=
  some s0
def kb_Fr_add_26 (N : Nat) (v0 : Int64) (v2 : Int64) : Option (Int64) :=
  if (lg_cmp v0 1) = 0 then (kb_Fr_add_37 N v2) else
  kb_Fr_add_37 N v0
def kb_Fr_add_0 (N : Nat) (v0 : Int64) (v2 : Int64) : Option (Int64) :=
  if (lg_cmp v0 0) = 0 then (kb_Fr_add_12 N) else
  if (lg_cmp v2 0) = 0 then (kb_Fr_add_12 N) else
  if (lg_cmp v0 1) = 0 then (kb_Fr_add_26 N v0 v2) else
  if (lg_cmp v2 1) = 0 then (kb_Fr_add_26 N v0 v2) else
  Option.bind (kf_Fr_bottomOf N v0) fun r39 =>
  Option.bind (kf_Fr_bottomOf N v2) fun r43 =>
  Option.bind (kf_Fr_gcd N r39 r43) fun r46 =>
  Option.bind (kf_Fr_bottomOf N v0) fun r52 =>
  if r46 = 0 then none else
  Option.bind (kf_Fr_topOf N v0) fun r61 =>
  Option.bind (kf_Fr_bottomOf N v2) fun r65 =>
  if r46 = 0 then none else
  Option.bind (kf_Fr_topOf N v2) fun r73 =>
  Option.bind (kf_Fr_gcd N ((r61 * (r65 / r46)) + (r73 * (r52 / r46))) r46) fun r86 =>
  if r86 = 0 then none else
  Option.bind (kf_Fr_bottomOf N v2) fun r99 =>
  if r86 = 0 then none else
  Option.bind (kf_Fr_fit N (((r61 * (r65 / r46)) + (r73 * (r52 / r46))) / r86) ((r52 / r46) * (r99 / r86))) fun r106 =>
  some r106
def kf_Fr_add (N : Nat) (v0 : Int64) (v2 : Int64) : Option (Int64) := kb_Fr_add_0 N  v0 v2
set_option maxHeartbeats 4000000 in
theorem lb_Fr_add_12 (M : mv_M) (N : Nat)  : jb_Fr_add_12 N M = (kb_Fr_add_12 N ).map (fun q => (q, M)) := by
  unfold jb_Fr_add_12 kb_Fr_add_12
  rfl
set_option maxHeartbeats 4000000 in
theorem lb_Fr_add_37 (M : mv_M) (N : Nat)  (s0 : Int64) : jb_Fr_add_37 N M s0 = (kb_Fr_add_37 N  s0).map (fun q => (q, M)) := by
  unfold jb_Fr_add_37 kb_Fr_add_37
  rfl
set_option maxHeartbeats 4000000 in
theorem lb_Fr_add_26 (M : mv_M) (N : Nat)  (v0 : Int64) (v2 : Int64) : jb_Fr_add_26 N M v0 v2 = (kb_Fr_add_26 N  v0 v2).map (fun q => (q, M)) := by
  unfold jb_Fr_add_26 kb_Fr_add_26
  refine km_ite (fun _ => ?_) (fun _ => ?_)
  · exact lb_Fr_add_37 M N _
  · exact lb_Fr_add_37 M N _
set_option maxHeartbeats 4000000 in
theorem lb_Fr_add_0 (M : mv_M) (N : Nat)  (v0 : Int64) (v2 : Int64) : jb_Fr_add_0 N M v0 v2 = (kb_Fr_add_0 N  v0 v2).map (fun q => (q, M)) := by
  unfold jb_Fr_add_0 kb_Fr_add_0
  refine km_ite (fun _ => ?_) (fun _ => ?_)
  · exact lb_Fr_add_12 M N
  · refine km_ite (fun _ => ?_) (fun _ => ?_)
    · exact lb_Fr_add_12 M N
    · refine km_ite (fun _ => ?_) (fun _ => ?_)
      · exact lb_Fr_add_26 M N _ _
      · refine km_ite (fun _ => ?_) (fun _ => ?_)
        · exact lb_Fr_add_26 M N _ _
        · try rw [lf_Fr_bottomOf]
          refine km_callP (fun r39 => ?_)
          try rw [lf_Fr_bottomOf]
          refine km_callP (fun r43 => ?_)
          try rw [lf_Fr_gcd]
          refine km_callP (fun r46 => ?_)
          try rw [lf_Fr_bottomOf]
          refine km_callP (fun r52 => ?_)
          refine km_ite (fun _ => rfl) (fun _ => ?_)
          try rw [lf_Fr_topOf]
          refine km_callP (fun r61 => ?_)
          try rw [lf_Fr_bottomOf]
          refine km_callP (fun r65 => ?_)
          refine km_ite (fun _ => rfl) (fun _ => ?_)
          try rw [lf_Fr_topOf]
          refine km_callP (fun r73 => ?_)
          try rw [lf_Fr_gcd]
          refine km_callP (fun r86 => ?_)
          refine km_ite (fun _ => rfl) (fun _ => ?_)
          try rw [lf_Fr_bottomOf]
          refine km_callP (fun r99 => ?_)
          refine km_ite (fun _ => rfl) (fun _ => ?_)
          try rw [lf_Fr_fit]
          refine km_callP (fun r106 => ?_)
          rfl
theorem lf_Fr_add (M : mv_M) (N : Nat) (v0 : Int64) (v2 : Int64) : jf_Fr_add N M v0 v2 = (kf_Fr_add N v0 v2).map (fun q => (q, M)) := lb_Fr_add_0 M N  v0 v2
/-! ===== PlainLearner$Fractions.times(JJ)J ===== -/
def kb_Fr_times_12 (N : Nat) : Option (Int64) :=
  some 0
def kb_Fr_times_43 (N : Nat) (s0 : Int64) : Option (Int64) :=
  some s0
def kb_Fr_times_30 (N : Nat) (v0 : Int64) (v2 : Int64) : Option (Int64) :=
  if (lg_cmp v0 4294967297) = 0 then (kb_Fr_times_43 N v2) else
  kb_Fr_times_43 N v0
def kb_Fr_times_0 (N : Nat) (v0 : Int64) (v2 : Int64) : Option (Int64) :=
  if (lg_cmp v0 0) = 0 then (kb_Fr_times_12 N) else
  if (lg_cmp v2 0) = 0 then (kb_Fr_times_12 N) else
  if (lg_cmp v0 4294967297) = 0 then (kb_Fr_times_30 N v0 v2) else
  if (lg_cmp v2 4294967297) = 0 then (kb_Fr_times_30 N v0 v2) else
  Option.bind (kf_Fr_topOf N v0) fun r45 =>
  Option.bind (kf_Fr_bottomOf N v2) fun r49 =>
  Option.bind (kf_Fr_gcd N r45 r49) fun r52 =>
  Option.bind (kf_Fr_topOf N v2) fun r58 =>
  Option.bind (kf_Fr_bottomOf N v0) fun r62 =>
  Option.bind (kf_Fr_gcd N r58 r62) fun r65 =>
  Option.bind (kf_Fr_topOf N v0) fun r71 =>
  if r52 = 0 then none else
  Option.bind (kf_Fr_topOf N v2) fun r78 =>
  if r65 = 0 then none else
  Option.bind (kf_Fr_bottomOf N v0) fun r86 =>
  if r65 = 0 then none else
  Option.bind (kf_Fr_bottomOf N v2) fun r93 =>
  if r52 = 0 then none else
  Option.bind (kf_Fr_fit N ((r71 / r52) * (r78 / r65)) ((r86 / r65) * (r93 / r52))) fun r100 =>
  some r100
def kf_Fr_times (N : Nat) (v0 : Int64) (v2 : Int64) : Option (Int64) := kb_Fr_times_0 N  v0 v2
set_option maxHeartbeats 4000000 in
theorem lb_Fr_times_12 (M : mv_M) (N : Nat)  : jb_Fr_times_12 N M = (kb_Fr_times_12 N ).map (fun q => (q, M)) := by
  unfold jb_Fr_times_12 kb_Fr_times_12
  rfl
set_option maxHeartbeats 4000000 in
theorem lb_Fr_times_43 (M : mv_M) (N : Nat)  (s0 : Int64) : jb_Fr_times_43 N M s0 = (kb_Fr_times_43 N  s0).map (fun q => (q, M)) := by
  unfold jb_Fr_times_43 kb_Fr_times_43
  rfl
set_option maxHeartbeats 4000000 in
theorem lb_Fr_times_30 (M : mv_M) (N : Nat)  (v0 : Int64) (v2 : Int64) : jb_Fr_times_30 N M v0 v2 = (kb_Fr_times_30 N  v0 v2).map (fun q => (q, M)) := by
  unfold jb_Fr_times_30 kb_Fr_times_30
  refine km_ite (fun _ => ?_) (fun _ => ?_)
  · exact lb_Fr_times_43 M N _
  · exact lb_Fr_times_43 M N _
set_option maxHeartbeats 4000000 in
theorem lb_Fr_times_0 (M : mv_M) (N : Nat)  (v0 : Int64) (v2 : Int64) : jb_Fr_times_0 N M v0 v2 = (kb_Fr_times_0 N  v0 v2).map (fun q => (q, M)) := by
  unfold jb_Fr_times_0 kb_Fr_times_0
  refine km_ite (fun _ => ?_) (fun _ => ?_)
  · exact lb_Fr_times_12 M N
  · refine km_ite (fun _ => ?_) (fun _ => ?_)
    · exact lb_Fr_times_12 M N
    · refine km_ite (fun _ => ?_) (fun _ => ?_)
      · exact lb_Fr_times_30 M N _ _
      · refine km_ite (fun _ => ?_) (fun _ => ?_)
        · exact lb_Fr_times_30 M N _ _
        · try rw [lf_Fr_topOf]
          refine km_callP (fun r45 => ?_)
          try rw [lf_Fr_bottomOf]
          refine km_callP (fun r49 => ?_)
          try rw [lf_Fr_gcd]
          refine km_callP (fun r52 => ?_)
          try rw [lf_Fr_topOf]
          refine km_callP (fun r58 => ?_)
          try rw [lf_Fr_bottomOf]
          refine km_callP (fun r62 => ?_)
          try rw [lf_Fr_gcd]
          refine km_callP (fun r65 => ?_)
          try rw [lf_Fr_topOf]
          refine km_callP (fun r71 => ?_)
          refine km_ite (fun _ => rfl) (fun _ => ?_)
          try rw [lf_Fr_topOf]
          refine km_callP (fun r78 => ?_)
          refine km_ite (fun _ => rfl) (fun _ => ?_)
          try rw [lf_Fr_bottomOf]
          refine km_callP (fun r86 => ?_)
          refine km_ite (fun _ => rfl) (fun _ => ?_)
          try rw [lf_Fr_bottomOf]
          refine km_callP (fun r93 => ?_)
          refine km_ite (fun _ => rfl) (fun _ => ?_)
          try rw [lf_Fr_fit]
          refine km_callP (fun r100 => ?_)
          rfl
theorem lf_Fr_times (M : mv_M) (N : Nat) (v0 : Int64) (v2 : Int64) : jf_Fr_times N M v0 v2 = (kf_Fr_times N v0 v2).map (fun q => (q, M)) := lb_Fr_times_0 M N  v0 v2
/-! ===== PlainLearner$Fractions.minus(J)J ===== -/
def kb_Fr_minus_0 (N : Nat) (v0 : Int64) : Option (Int64) :=
  Option.bind (kf_Fr_topOf N v0) fun r1 =>
  Option.bind (kf_Fr_bottomOf N v0) fun r6 =>
  Option.bind (kf_Fr_fit N (-r1) r6) fun r9 =>
  some r9
def kf_Fr_minus (N : Nat) (v0 : Int64) : Option (Int64) := kb_Fr_minus_0 N  v0
set_option maxHeartbeats 4000000 in
theorem lb_Fr_minus_0 (M : mv_M) (N : Nat)  (v0 : Int64) : jb_Fr_minus_0 N M v0 = (kb_Fr_minus_0 N  v0).map (fun q => (q, M)) := by
  unfold jb_Fr_minus_0 kb_Fr_minus_0
  try rw [lf_Fr_topOf]
  refine km_callP (fun r1 => ?_)
  try rw [lf_Fr_bottomOf]
  refine km_callP (fun r6 => ?_)
  try rw [lf_Fr_fit]
  refine km_callP (fun r9 => ?_)
  rfl
theorem lf_Fr_minus (M : mv_M) (N : Nat) (v0 : Int64) : jf_Fr_minus N M v0 = (kf_Fr_minus N v0).map (fun q => (q, M)) := lb_Fr_minus_0 M N  v0
/-! ===== PlainLearner$Fractions.sideOf(JI)J ===== -/
def kb_Fr_sideOf_15 (N : Nat) (s0 : Int64) : Option (Int64) :=
  some s0
def kb_Fr_sideOf_0 (N : Nat) (v0 : Int64) (v2 : Int32) : Option (Int64) :=
  if v2 = 0 then (Option.bind (kf_Fr_topOf N v0) fun r5 =>
  kb_Fr_sideOf_15 N r5) else
  Option.bind (kf_Fr_bottomOf N v0) fun r12 =>
  kb_Fr_sideOf_15 N r12
def kf_Fr_sideOf (N : Nat) (v0 : Int64) (v2 : Int32) : Option (Int64) := kb_Fr_sideOf_0 N  v0 v2
set_option maxHeartbeats 4000000 in
theorem lb_Fr_sideOf_15 (M : mv_M) (N : Nat)  (s0 : Int64) : jb_Fr_sideOf_15 N M s0 = (kb_Fr_sideOf_15 N  s0).map (fun q => (q, M)) := by
  unfold jb_Fr_sideOf_15 kb_Fr_sideOf_15
  rfl
set_option maxHeartbeats 4000000 in
theorem lb_Fr_sideOf_0 (M : mv_M) (N : Nat)  (v0 : Int64) (v2 : Int32) : jb_Fr_sideOf_0 N M v0 v2 = (kb_Fr_sideOf_0 N  v0 v2).map (fun q => (q, M)) := by
  unfold jb_Fr_sideOf_0 kb_Fr_sideOf_0
  refine km_ite (fun _ => ?_) (fun _ => ?_)
  · try rw [lf_Fr_topOf]
    refine km_callP (fun r5 => ?_)
    exact lb_Fr_sideOf_15 M N _
  · try rw [lf_Fr_bottomOf]
    refine km_callP (fun r12 => ?_)
    exact lb_Fr_sideOf_15 M N _
theorem lf_Fr_sideOf (M : mv_M) (N : Nat) (v0 : Int64) (v2 : Int32) : jf_Fr_sideOf N M v0 v2 = (kf_Fr_sideOf N v0 v2).map (fun q => (q, M)) := lb_Fr_sideOf_0 M N  v0 v2
/-! ===== java/lang/Math.min(JJ)J ===== -/
def kb_Jm_min1_11 (N : Nat) (s0 : Int64) : Option (Int64) :=
  some s0
def kb_Jm_min1_0 (N : Nat) (v0 : Int64) (v2 : Int64) : Option (Int64) :=
  if 0 < (lg_cmp v0 v2) then (kb_Jm_min1_11 N v2) else
  kb_Jm_min1_11 N v0
def kf_Jm_min1 (N : Nat) (v0 : Int64) (v2 : Int64) : Option (Int64) := kb_Jm_min1_0 N  v0 v2
set_option maxHeartbeats 4000000 in
theorem lb_Jm_min1_11 (M : mv_M) (N : Nat)  (s0 : Int64) : jb_Jm_min1_11 N M s0 = (kb_Jm_min1_11 N  s0).map (fun q => (q, M)) := by
  unfold jb_Jm_min1_11 kb_Jm_min1_11
  rfl
set_option maxHeartbeats 4000000 in
theorem lb_Jm_min1_0 (M : mv_M) (N : Nat)  (v0 : Int64) (v2 : Int64) : jb_Jm_min1_0 N M v0 v2 = (kb_Jm_min1_0 N  v0 v2).map (fun q => (q, M)) := by
  unfold jb_Jm_min1_0 kb_Jm_min1_0
  refine km_ite (fun _ => ?_) (fun _ => ?_)
  · exact lb_Jm_min1_11 M N _
  · exact lb_Jm_min1_11 M N _
theorem lf_Jm_min1 (M : mv_M) (N : Nat) (v0 : Int64) (v2 : Int64) : jf_Jm_min1 N M v0 v2 = (kf_Jm_min1 N v0 v2).map (fun q => (q, M)) := lb_Jm_min1_0 M N  v0 v2
/-! ===== java/lang/Math.floorDiv(JJ)J ===== -/
def kb_Jm_floorDiv_27 (N : Nat) (v4 : Int64) : Option (Int64) :=
  some v4
def kb_Jm_floorDiv_0 (N : Nat) (v0 : Int64) (v2 : Int64) : Option (Int64) :=
  if v2 = 0 then none else
  if 0 ≤ (lg_cmp (v0 ^^^ v2) 0) then (kb_Jm_floorDiv_27 N (v0 / v2)) else
  if (lg_cmp ((v0 / v2) * v2) v0) = 0 then (kb_Jm_floorDiv_27 N (v0 / v2)) else
  some ((v0 / v2) - 1)
def kf_Jm_floorDiv (N : Nat) (v0 : Int64) (v2 : Int64) : Option (Int64) := kb_Jm_floorDiv_0 N  v0 v2
set_option maxHeartbeats 4000000 in
theorem lb_Jm_floorDiv_27 (M : mv_M) (N : Nat)  (v4 : Int64) : jb_Jm_floorDiv_27 N M v4 = (kb_Jm_floorDiv_27 N  v4).map (fun q => (q, M)) := by
  unfold jb_Jm_floorDiv_27 kb_Jm_floorDiv_27
  rfl
set_option maxHeartbeats 4000000 in
theorem lb_Jm_floorDiv_0 (M : mv_M) (N : Nat)  (v0 : Int64) (v2 : Int64) : jb_Jm_floorDiv_0 N M v0 v2 = (kb_Jm_floorDiv_0 N  v0 v2).map (fun q => (q, M)) := by
  unfold jb_Jm_floorDiv_0 kb_Jm_floorDiv_0
  refine km_ite (fun _ => rfl) (fun _ => ?_)
  refine km_ite (fun _ => ?_) (fun _ => ?_)
  · exact lb_Jm_floorDiv_27 M N _
  · refine km_ite (fun _ => ?_) (fun _ => ?_)
    · exact lb_Jm_floorDiv_27 M N _
    · rfl
theorem lf_Jm_floorDiv (M : mv_M) (N : Nat) (v0 : Int64) (v2 : Int64) : jf_Jm_floorDiv N M v0 v2 = (kf_Jm_floorDiv N v0 v2).map (fun q => (q, M)) := lb_Jm_floorDiv_0 M N  v0 v2
/-! ===== PlainLearner$Fractions.rounded(J)J ===== -/
def kb_Fr_rounded_0 (N : Nat) (v0 : Int64) : Option (Int64) :=
  Option.bind (kf_Fr_bottomOf N v0) fun r1 =>
  if (lg_cmp r1 0) = 0 then (some 0) else
  Option.bind (kf_Fr_topOf N v0) fun r17 =>
  Option.bind (kf_Jm_floorDiv N ((8192 * r17) + r1) (2 * r1)) fun r28 =>
  Option.bind (kf_Fr_of N r28 4096) fun r34 =>
  some r34
def kf_Fr_rounded (N : Nat) (v0 : Int64) : Option (Int64) := kb_Fr_rounded_0 N  v0
set_option maxHeartbeats 4000000 in
theorem lb_Fr_rounded_0 (M : mv_M) (N : Nat)  (v0 : Int64) : jb_Fr_rounded_0 N M v0 = (kb_Fr_rounded_0 N  v0).map (fun q => (q, M)) := by
  unfold jb_Fr_rounded_0 kb_Fr_rounded_0
  try rw [lf_Fr_bottomOf]
  refine km_callP (fun r1 => ?_)
  refine km_ite (fun _ => ?_) (fun _ => ?_)
  · rfl
  · try rw [lf_Fr_topOf]
    refine km_callP (fun r17 => ?_)
    try rw [lf_Jm_floorDiv]
    refine km_callP (fun r28 => ?_)
    try rw [lf_Fr_of]
    refine km_callP (fun r34 => ?_)
    rfl
theorem lf_Fr_rounded (M : mv_M) (N : Nat) (v0 : Int64) : jf_Fr_rounded N M v0 = (kf_Fr_rounded N v0).map (fun q => (q, M)) := lb_Fr_rounded_0 M N  v0
/-! ===== PlainLearner$Table.isNumber(I)Z ===== -/
def kb_Ta_isNumber_19 (N : Nat) (s0 : Int32) : Option (Int32) :=
  if s0 = 0 ∨ s0 = 1 then some s0 else none
def kb_Ta_isNumber_18 (N : Nat) : Option (Int32) :=
  kb_Ta_isNumber_19 N 0
def kb_Ta_isNumber_0 (N : Nat) (v0 : Int32) : Option (Int32) :=
  if v0 < (-1000) then (kb_Ta_isNumber_18 N) else
  if 1000 < v0 then (kb_Ta_isNumber_18 N) else
  kb_Ta_isNumber_19 N 1
def kf_Ta_isNumber (N : Nat) (v0 : Int32) : Option (Int32) := kb_Ta_isNumber_0 N  v0
set_option maxHeartbeats 4000000 in
theorem lb_Ta_isNumber_19 (M : mv_M) (N : Nat)  (s0 : Int32) : jb_Ta_isNumber_19 N M s0 = (kb_Ta_isNumber_19 N  s0).map (fun q => (q, M)) := by
  unfold jb_Ta_isNumber_19 kb_Ta_isNumber_19
  refine km_ite (fun _ => rfl) (fun _ => rfl)
set_option maxHeartbeats 4000000 in
theorem lb_Ta_isNumber_18 (M : mv_M) (N : Nat)  : jb_Ta_isNumber_18 N M = (kb_Ta_isNumber_18 N ).map (fun q => (q, M)) := by
  unfold jb_Ta_isNumber_18 kb_Ta_isNumber_18
  exact lb_Ta_isNumber_19 M N _
set_option maxHeartbeats 4000000 in
theorem lb_Ta_isNumber_0 (M : mv_M) (N : Nat)  (v0 : Int32) : jb_Ta_isNumber_0 N M v0 = (kb_Ta_isNumber_0 N  v0).map (fun q => (q, M)) := by
  unfold jb_Ta_isNumber_0 kb_Ta_isNumber_0
  refine km_ite (fun _ => ?_) (fun _ => ?_)
  · exact lb_Ta_isNumber_18 M N
  · refine km_ite (fun _ => ?_) (fun _ => ?_)
    · exact lb_Ta_isNumber_18 M N
    · exact lb_Ta_isNumber_19 M N _
theorem lf_Ta_isNumber (M : mv_M) (N : Nat) (v0 : Int32) : jf_Ta_isNumber N M v0 = (kf_Ta_isNumber N v0).map (fun q => (q, M)) := lb_Ta_isNumber_0 M N  v0
/-! ===== PlainLearner$Table.isColumn(I)Z ===== -/
def kb_Ta_isColumn_14 (N : Nat) (s0 : Int32) : Option (Int32) :=
  if s0 = 0 ∨ s0 = 1 then some s0 else none
def kb_Ta_isColumn_13 (N : Nat) : Option (Int32) :=
  kb_Ta_isColumn_14 N 0
def kb_Ta_isColumn_0 (N : Nat) (v0 : Int32) : Option (Int32) :=
  if v0 < 0 then (kb_Ta_isColumn_13 N) else
  if 4 ≤ v0 then (kb_Ta_isColumn_13 N) else
  kb_Ta_isColumn_14 N 1
def kf_Ta_isColumn (N : Nat) (v0 : Int32) : Option (Int32) := kb_Ta_isColumn_0 N  v0
set_option maxHeartbeats 4000000 in
theorem lb_Ta_isColumn_14 (M : mv_M) (N : Nat)  (s0 : Int32) : jb_Ta_isColumn_14 N M s0 = (kb_Ta_isColumn_14 N  s0).map (fun q => (q, M)) := by
  unfold jb_Ta_isColumn_14 kb_Ta_isColumn_14
  refine km_ite (fun _ => rfl) (fun _ => rfl)
set_option maxHeartbeats 4000000 in
theorem lb_Ta_isColumn_13 (M : mv_M) (N : Nat)  : jb_Ta_isColumn_13 N M = (kb_Ta_isColumn_13 N ).map (fun q => (q, M)) := by
  unfold jb_Ta_isColumn_13 kb_Ta_isColumn_13
  exact lb_Ta_isColumn_14 M N _
set_option maxHeartbeats 4000000 in
theorem lb_Ta_isColumn_0 (M : mv_M) (N : Nat)  (v0 : Int32) : jb_Ta_isColumn_0 N M v0 = (kb_Ta_isColumn_0 N  v0).map (fun q => (q, M)) := by
  unfold jb_Ta_isColumn_0 kb_Ta_isColumn_0
  refine km_ite (fun _ => ?_) (fun _ => ?_)
  · exact lb_Ta_isColumn_13 M N
  · refine km_ite (fun _ => ?_) (fun _ => ?_)
    · exact lb_Ta_isColumn_13 M N
    · exact lb_Ta_isColumn_14 M N _
theorem lf_Ta_isColumn (M : mv_M) (N : Nat) (v0 : Int32) : jf_Ta_isColumn N M v0 = (kf_Ta_isColumn N v0).map (fun q => (q, M)) := lb_Ta_isColumn_0 M N  v0
/-! ===== PlainLearner$Table.isLess(JJ)Z ===== -/
def kb_Ta_isLess_25 (N : Nat) (s0 : Int32) : Option (Int32) :=
  if s0 = 0 ∨ s0 = 1 then some s0 else none
def kb_Ta_isLess_24 (N : Nat) : Option (Int32) :=
  kb_Ta_isLess_25 N 0
def kb_Ta_isLess_20 (N : Nat) : Option (Int32) :=
  kb_Ta_isLess_25 N 1
def kb_Ta_isLess_0 (N : Nat) (v0 : Int64) (v2 : Int64) : Option (Int32) :=
  if (lg_cmp v0 0) = 0 then (kb_Ta_isLess_24 N) else
  if (lg_cmp v2 0) = 0 then (kb_Ta_isLess_20 N) else
  Option.bind (kf_Fr_compare N v0 v2) fun r14 =>
  if 0 ≤ r14 then (kb_Ta_isLess_24 N) else
  kb_Ta_isLess_20 N
def kf_Ta_isLess (N : Nat) (v0 : Int64) (v2 : Int64) : Option (Int32) := kb_Ta_isLess_0 N  v0 v2
set_option maxHeartbeats 4000000 in
theorem lb_Ta_isLess_25 (M : mv_M) (N : Nat)  (s0 : Int32) : jb_Ta_isLess_25 N M s0 = (kb_Ta_isLess_25 N  s0).map (fun q => (q, M)) := by
  unfold jb_Ta_isLess_25 kb_Ta_isLess_25
  refine km_ite (fun _ => rfl) (fun _ => rfl)
set_option maxHeartbeats 4000000 in
theorem lb_Ta_isLess_24 (M : mv_M) (N : Nat)  : jb_Ta_isLess_24 N M = (kb_Ta_isLess_24 N ).map (fun q => (q, M)) := by
  unfold jb_Ta_isLess_24 kb_Ta_isLess_24
  exact lb_Ta_isLess_25 M N _
set_option maxHeartbeats 4000000 in
theorem lb_Ta_isLess_20 (M : mv_M) (N : Nat)  : jb_Ta_isLess_20 N M = (kb_Ta_isLess_20 N ).map (fun q => (q, M)) := by
  unfold jb_Ta_isLess_20 kb_Ta_isLess_20
  exact lb_Ta_isLess_25 M N _
set_option maxHeartbeats 4000000 in
theorem lb_Ta_isLess_0 (M : mv_M) (N : Nat)  (v0 : Int64) (v2 : Int64) : jb_Ta_isLess_0 N M v0 v2 = (kb_Ta_isLess_0 N  v0 v2).map (fun q => (q, M)) := by
  unfold jb_Ta_isLess_0 kb_Ta_isLess_0
  refine km_ite (fun _ => ?_) (fun _ => ?_)
  · exact lb_Ta_isLess_24 M N
  · refine km_ite (fun _ => ?_) (fun _ => ?_)
    · exact lb_Ta_isLess_20 M N
    · try rw [lf_Fr_compare]
      refine km_callP (fun r14 => ?_)
      refine km_ite (fun _ => ?_) (fun _ => ?_)
      · exact lb_Ta_isLess_24 M N
      · exact lb_Ta_isLess_20 M N
theorem lf_Ta_isLess (M : mv_M) (N : Nat) (v0 : Int64) (v2 : Int64) : jf_Ta_isLess N M v0 v2 = (kf_Ta_isLess N v0 v2).map (fun q => (q, M)) := lb_Ta_isLess_0 M N  v0 v2
/-! ===== java/lang/Integer.bitCount(I)I ===== -/
def kb_Ji_bitCount_0 (N : Nat) (v0 : Int32) : Option (Int32) :=
  some ((((((((v0 - (((v0.toUInt32 >>> ((1 : Int32).toUInt32 &&& Int32.toUInt32 31)).toInt32) &&& 1431655765)) &&& 858993459) + ((((v0 - (((v0.toUInt32 >>> ((1 : Int32).toUInt32 &&& Int32.toUInt32 31)).toInt32) &&& 1431655765)).toUInt32 >>> ((2 : Int32).toUInt32 &&& Int32.toUInt32 31)).toInt32) &&& 858993459)) + (((((v0 - (((v0.toUInt32 >>> ((1 : Int32).toUInt32 &&& Int32.toUInt32 31)).toInt32) &&& 1431655765)) &&& 858993459) + ((((v0 - (((v0.toUInt32 >>> ((1 : Int32).toUInt32 &&& Int32.toUInt32 31)).toInt32) &&& 1431655765)).toUInt32 >>> ((2 : Int32).toUInt32 &&& Int32.toUInt32 31)).toInt32) &&& 858993459)).toUInt32 >>> ((4 : Int32).toUInt32 &&& Int32.toUInt32 31)).toInt32)) &&& 252645135) + (((((((v0 - (((v0.toUInt32 >>> ((1 : Int32).toUInt32 &&& Int32.toUInt32 31)).toInt32) &&& 1431655765)) &&& 858993459) + ((((v0 - (((v0.toUInt32 >>> ((1 : Int32).toUInt32 &&& Int32.toUInt32 31)).toInt32) &&& 1431655765)).toUInt32 >>> ((2 : Int32).toUInt32 &&& Int32.toUInt32 31)).toInt32) &&& 858993459)) + (((((v0 - (((v0.toUInt32 >>> ((1 : Int32).toUInt32 &&& Int32.toUInt32 31)).toInt32) &&& 1431655765)) &&& 858993459) + ((((v0 - (((v0.toUInt32 >>> ((1 : Int32).toUInt32 &&& Int32.toUInt32 31)).toInt32) &&& 1431655765)).toUInt32 >>> ((2 : Int32).toUInt32 &&& Int32.toUInt32 31)).toInt32) &&& 858993459)).toUInt32 >>> ((4 : Int32).toUInt32 &&& Int32.toUInt32 31)).toInt32)) &&& 252645135).toUInt32 >>> ((8 : Int32).toUInt32 &&& Int32.toUInt32 31)).toInt32)) + ((((((((v0 - (((v0.toUInt32 >>> ((1 : Int32).toUInt32 &&& Int32.toUInt32 31)).toInt32) &&& 1431655765)) &&& 858993459) + ((((v0 - (((v0.toUInt32 >>> ((1 : Int32).toUInt32 &&& Int32.toUInt32 31)).toInt32) &&& 1431655765)).toUInt32 >>> ((2 : Int32).toUInt32 &&& Int32.toUInt32 31)).toInt32) &&& 858993459)) + (((((v0 - (((v0.toUInt32 >>> ((1 : Int32).toUInt32 &&& Int32.toUInt32 31)).toInt32) &&& 1431655765)) &&& 858993459) + ((((v0 - (((v0.toUInt32 >>> ((1 : Int32).toUInt32 &&& Int32.toUInt32 31)).toInt32) &&& 1431655765)).toUInt32 >>> ((2 : Int32).toUInt32 &&& Int32.toUInt32 31)).toInt32) &&& 858993459)).toUInt32 >>> ((4 : Int32).toUInt32 &&& Int32.toUInt32 31)).toInt32)) &&& 252645135) + (((((((v0 - (((v0.toUInt32 >>> ((1 : Int32).toUInt32 &&& Int32.toUInt32 31)).toInt32) &&& 1431655765)) &&& 858993459) + ((((v0 - (((v0.toUInt32 >>> ((1 : Int32).toUInt32 &&& Int32.toUInt32 31)).toInt32) &&& 1431655765)).toUInt32 >>> ((2 : Int32).toUInt32 &&& Int32.toUInt32 31)).toInt32) &&& 858993459)) + (((((v0 - (((v0.toUInt32 >>> ((1 : Int32).toUInt32 &&& Int32.toUInt32 31)).toInt32) &&& 1431655765)) &&& 858993459) + ((((v0 - (((v0.toUInt32 >>> ((1 : Int32).toUInt32 &&& Int32.toUInt32 31)).toInt32) &&& 1431655765)).toUInt32 >>> ((2 : Int32).toUInt32 &&& Int32.toUInt32 31)).toInt32) &&& 858993459)).toUInt32 >>> ((4 : Int32).toUInt32 &&& Int32.toUInt32 31)).toInt32)) &&& 252645135).toUInt32 >>> ((8 : Int32).toUInt32 &&& Int32.toUInt32 31)).toInt32)).toUInt32 >>> ((16 : Int32).toUInt32 &&& Int32.toUInt32 31)).toInt32)) &&& 63)
def kf_Ji_bitCount (N : Nat) (v0 : Int32) : Option (Int32) := kb_Ji_bitCount_0 N  v0
set_option maxHeartbeats 4000000 in
theorem lb_Ji_bitCount_0 (M : mv_M) (N : Nat)  (v0 : Int32) : jb_Ji_bitCount_0 N M v0 = (kb_Ji_bitCount_0 N  v0).map (fun q => (q, M)) := by
  unfold jb_Ji_bitCount_0 kb_Ji_bitCount_0
  rfl
theorem lf_Ji_bitCount (M : mv_M) (N : Nat) (v0 : Int32) : jf_Ji_bitCount N M v0 = (kf_Ji_bitCount N v0).map (fun q => (q, M)) := lb_Ji_bitCount_0 M N  v0
/-! ===== PlainLearner$Tokens.letterAt(JI)I ===== -/
def kb_Tk_letterAt_0 (N : Nat) (v0 : Int64) (v2 : Int32) : Option (Int32) :=
  some ((((v0.toUInt64 >>> (((8 * v2) : Int32).toInt64.toUInt64 &&& Int64.toUInt64 63)).toInt64) &&& 255).toInt32 - 97)
def kf_Tk_letterAt (N : Nat) (v0 : Int64) (v2 : Int32) : Option (Int32) := kb_Tk_letterAt_0 N  v0 v2
set_option maxHeartbeats 4000000 in
theorem lb_Tk_letterAt_0 (M : mv_M) (N : Nat)  (v0 : Int64) (v2 : Int32) : jb_Tk_letterAt_0 N M v0 v2 = (kb_Tk_letterAt_0 N  v0 v2).map (fun q => (q, M)) := by
  unfold jb_Tk_letterAt_0 kb_Tk_letterAt_0
  rfl
theorem lf_Tk_letterAt (M : mv_M) (N : Nat) (v0 : Int64) (v2 : Int32) : jf_Tk_letterAt N M v0 v2 = (kf_Tk_letterAt N v0 v2).map (fun q => (q, M)) := lb_Tk_letterAt_0 M N  v0 v2
/-! ===== PlainLearnerModel.isAbove(JJJJ)Z ===== -/
def kb_PM_isAbove_17 (N : Nat) (s0 : Int32) : Option (Int32) :=
  if s0 = 0 ∨ s0 = 1 then some s0 else none
def kb_PM_isAbove_0 (N : Nat) (v0 : Int64) (v2 : Int64) (v4 : Int64) (v6 : Int64) : Option (Int32) :=
  if (lg_cmp (v0 * v6) (v4 * v2)) ≤ 0 then (kb_PM_isAbove_17 N 0) else
  kb_PM_isAbove_17 N 1
def kf_PM_isAbove (N : Nat) (v0 : Int64) (v2 : Int64) (v4 : Int64) (v6 : Int64) : Option (Int32) := kb_PM_isAbove_0 N  v0 v2 v4 v6
set_option maxHeartbeats 4000000 in
theorem lb_PM_isAbove_17 (M : mv_M) (N : Nat)  (s0 : Int32) : jb_PM_isAbove_17 N M s0 = (kb_PM_isAbove_17 N  s0).map (fun q => (q, M)) := by
  unfold jb_PM_isAbove_17 kb_PM_isAbove_17
  refine km_ite (fun _ => rfl) (fun _ => rfl)
set_option maxHeartbeats 4000000 in
theorem lb_PM_isAbove_0 (M : mv_M) (N : Nat)  (v0 : Int64) (v2 : Int64) (v4 : Int64) (v6 : Int64) : jb_PM_isAbove_0 N M v0 v2 v4 v6 = (kb_PM_isAbove_0 N  v0 v2 v4 v6).map (fun q => (q, M)) := by
  unfold jb_PM_isAbove_0 kb_PM_isAbove_0
  refine km_ite (fun _ => ?_) (fun _ => ?_)
  · exact lb_PM_isAbove_17 M N _
  · exact lb_PM_isAbove_17 M N _
theorem lf_PM_isAbove (M : mv_M) (N : Nat) (v0 : Int64) (v2 : Int64) (v4 : Int64) (v6 : Int64) : jf_PM_isAbove N M v0 v2 v4 v6 = (kf_PM_isAbove N v0 v2 v4 v6).map (fun q => (q, M)) := lb_PM_isAbove_0 M N  v0 v2 v4 v6
/-! ===== PlainLearnerModel.isIn(JJJ)Z ===== -/
def kb_PM_isIn_18 (N : Nat) (s0 : Int32) : Option (Int32) :=
  if s0 = 0 ∨ s0 = 1 then some s0 else none
def kb_PM_isIn_17 (N : Nat) : Option (Int32) :=
  kb_PM_isIn_18 N 0
def kb_PM_isIn_0 (N : Nat) (v0 : Int64) (v2 : Int64) (v4 : Int64) : Option (Int32) :=
  if (lg_cmp v0 v2) < 0 then (kb_PM_isIn_17 N) else
  if 0 < (lg_cmp v0 v4) then (kb_PM_isIn_17 N) else
  kb_PM_isIn_18 N 1
def kf_PM_isIn (N : Nat) (v0 : Int64) (v2 : Int64) (v4 : Int64) : Option (Int32) := kb_PM_isIn_0 N  v0 v2 v4
set_option maxHeartbeats 4000000 in
theorem lb_PM_isIn_18 (M : mv_M) (N : Nat)  (s0 : Int32) : jb_PM_isIn_18 N M s0 = (kb_PM_isIn_18 N  s0).map (fun q => (q, M)) := by
  unfold jb_PM_isIn_18 kb_PM_isIn_18
  refine km_ite (fun _ => rfl) (fun _ => rfl)
set_option maxHeartbeats 4000000 in
theorem lb_PM_isIn_17 (M : mv_M) (N : Nat)  : jb_PM_isIn_17 N M = (kb_PM_isIn_17 N ).map (fun q => (q, M)) := by
  unfold jb_PM_isIn_17 kb_PM_isIn_17
  exact lb_PM_isIn_18 M N _
set_option maxHeartbeats 4000000 in
theorem lb_PM_isIn_0 (M : mv_M) (N : Nat)  (v0 : Int64) (v2 : Int64) (v4 : Int64) : jb_PM_isIn_0 N M v0 v2 v4 = (kb_PM_isIn_0 N  v0 v2 v4).map (fun q => (q, M)) := by
  unfold jb_PM_isIn_0 kb_PM_isIn_0
  refine km_ite (fun _ => ?_) (fun _ => ?_)
  · exact lb_PM_isIn_17 M N
  · refine km_ite (fun _ => ?_) (fun _ => ?_)
    · exact lb_PM_isIn_17 M N
    · exact lb_PM_isIn_18 M N _
theorem lf_PM_isIn (M : mv_M) (N : Nat) (v0 : Int64) (v2 : Int64) (v4 : Int64) : jf_PM_isIn N M v0 v2 v4 = (kf_PM_isIn N v0 v2 v4).map (fun q => (q, M)) := lb_PM_isIn_0 M N  v0 v2 v4
/-! ===== PlainLearnerModel.orders(I)J ===== -/
def kb_PM_orders_4 (N : Nat) : Nat → Int32 → Int64 → Int32 → Option (Int64)
  | 0, _, _, _ => none
  | n + 1, v0, v1, v3 =>
    if v0 < v3 then (some v1) else
    kb_PM_orders_4 N n v0 (v1 * v3.toInt64) (v3 + 1)
def kb_PM_orders_0 (N : Nat) (v0 : Int32) : Option (Int64) :=
  kb_PM_orders_4 N N v0 1 2
def kf_PM_orders (N : Nat) (v0 : Int32) : Option (Int64) := kb_PM_orders_0 N  v0
set_option maxHeartbeats 4000000 in
theorem lb_PM_orders_4 (M : mv_M) (N : Nat) : ∀ (n : Nat) (v0 : Int32) (v1 : Int64) (v3 : Int32), jb_PM_orders_4 N n M v0 v1 v3 = (kb_PM_orders_4 N n  v0 v1 v3).map (fun q => (q, M)) := by
  intro n
  induction n with
  | zero => intros; rfl
  | succ n ih =>
    intro v0 v1 v3
    rw [jb_PM_orders_4, kb_PM_orders_4]
    refine km_ite (fun _ => ?_) (fun _ => ?_)
    · rfl
    · exact ih _ _ _
set_option maxHeartbeats 4000000 in
theorem lb_PM_orders_0 (M : mv_M) (N : Nat)  (v0 : Int32) : jb_PM_orders_0 N M v0 = (kb_PM_orders_0 N  v0).map (fun q => (q, M)) := by
  unfold jb_PM_orders_0 kb_PM_orders_0
  exact lb_PM_orders_4 M N N _ _ _
theorem lf_PM_orders (M : mv_M) (N : Nat) (v0 : Int32) : jf_PM_orders N M v0 = (kf_PM_orders N v0).map (fun q => (q, M)) := lb_PM_orders_0 M N  v0
