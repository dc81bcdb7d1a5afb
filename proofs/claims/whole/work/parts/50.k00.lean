/-! ===== PlainLearnerModel.least(JJ)V ===== -/
def kb_PM_least_157 (N : Nat) (σ : kS) : Option (Unit × kS) :=
  some ((), σ)
def kb_PM_least_147 (N : Nat) (σ : kS) : Option (Unit × kS) :=
  kk_let (kL σ 0 0) fun s149 =>
  kk_let (kL s149 1 0) fun s154 =>
  kb_PM_least_157 N s154
def kb_PM_least_111 (N : Nat) (σ : kS) (s1 : Int64) : Option (Unit × kS) :=
  kk_let (kL σ 1 s1) fun s111 =>
  if 0 < (lg_cmp (s111.2.1 0) 2147483647) then (kb_PM_least_147 N s111) else
  if (lg_cmp (s111.2.1 0) (-2147483647)) < 0 then (kb_PM_least_147 N s111) else
  if (lg_cmp (s111.2.1 1) 2147483647) ≤ 0 then (kb_PM_least_157 N s111) else
  kb_PM_least_147 N s111
def kb_PM_least_89 (N : Nat) (σ : kS) (v3 : Int64) (v5 : Int64) (s1 : Int64) : Option (Unit × kS) :=
  kk_let (kL σ 0 s1) fun s89 =>
  if 0 ≤ (lg_cmp v3 0) then (if v5 = 0 then none else
  kb_PM_least_111 N s89 (v3 / v5)) else
  if v5 = 0 then none else
  kb_PM_least_111 N s89 (-(v3 / v5))
def kb_PM_least_45 (N : Nat) : Nat → kS → Int64 → Int64 → Int64 → Int64 → Option (Unit × kS)
  | 0, _, _, _, _, _ => none
  | n + 1, σ, v1, v3, v5, v7 =>
    if (lg_cmp v7 0) = 0 then (if 0 ≤ (lg_cmp v3 0) then (if v5 = 0 then none else
    kb_PM_least_89 N σ v3 v5 (v1 / v5)) else
    if v5 = 0 then none else
    kb_PM_least_89 N σ v3 v5 (-(v1 / v5))) else
    if v7 = 0 then none else
    kb_PM_least_45 N n σ v1 v3 v7 (v5 - v5 / v7 * v7)
def kb_PM_least_43 (N : Nat) (σ : kS) (v1 : Int64) (v3 : Int64) (v5 : Int64) (s0 : Int64) : Option (Unit × kS) :=
  kb_PM_least_45 N N σ v1 v3 v5 s0
def kb_PM_least_29 (N : Nat) (σ : kS) (v1 : Int64) (v3 : Int64) (s0 : Int64) : Option (Unit × kS) :=
  if 0 ≤ (lg_cmp v3 0) then (kb_PM_least_43 N σ v1 v3 s0 v3) else
  kb_PM_least_43 N σ v1 v3 s0 (-v3)
def kb_PM_least_0 (N : Nat) (σ : kS) (v1 : Int64) (v3 : Int64) : Option (Unit × kS) :=
  if (lg_cmp v3 0) = 0 then (kk_let (kL σ 0 0) fun s8 =>
  kk_let (kL s8 1 0) fun s13 =>
  some ((), s13)) else
  if 0 ≤ (lg_cmp v1 0) then (kb_PM_least_29 N σ v1 v3 v1) else
  kb_PM_least_29 N σ v1 v3 (-v1)
def kf_PM_least (N : Nat) (σ : kS) (v1 : Int64) (v3 : Int64) : Option (Unit × kS) := kb_PM_least_0 N σ v1 v3
set_option maxHeartbeats 4000000 in
theorem lb_PM_least_157 (o : Nat) (M : mv_M) (N : Nat)  (σ : kS) : jb_PM_least_157 N (wr_PM o M σ) = (kb_PM_least_157 N σ).map (wq_PM o M) := by
  unfold jb_PM_least_157 kb_PM_least_157
  rfl
set_option maxHeartbeats 4000000 in
theorem lb_PM_least_147 (o : Nat) (M : mv_M) (N : Nat)  (σ : kS) : jb_PM_least_147 N (wr_PM o M σ) o = (kb_PM_least_147 N σ).map (wq_PM o M) := by
  unfold jb_PM_least_147 kb_PM_least_147
  rw [wp_PM_0, Option.bind_some]
  refine km_let ?_
  rw [wp_PM_1, Option.bind_some]
  refine km_let ?_
  exact lb_PM_least_157 o M N _
set_option maxHeartbeats 4000000 in
theorem lb_PM_least_111 (o : Nat) (M : mv_M) (N : Nat)  (σ : kS) (s1 : Int64) : jb_PM_least_111 N (wr_PM o M σ) o o s1 = (kb_PM_least_111 N σ s1).map (wq_PM o M) := by
  unfold jb_PM_least_111 kb_PM_least_111
  rw [wp_PM_1, Option.bind_some]
  refine km_let ?_
  first | rw [wg_PM_0, Option.bind_some] | rw [Option.bind_some]
  refine km_ite (fun _ => ?_) (fun _ => ?_)
  · exact lb_PM_least_147 o M N _
  · first | rw [wg_PM_0, Option.bind_some] | rw [Option.bind_some]
    refine km_ite (fun _ => ?_) (fun _ => ?_)
    · exact lb_PM_least_147 o M N _
    · first | rw [wg_PM_1, Option.bind_some] | rw [Option.bind_some]
      refine km_ite (fun _ => ?_) (fun _ => ?_)
      · exact lb_PM_least_157 o M N _
      · exact lb_PM_least_147 o M N _
set_option maxHeartbeats 4000000 in
theorem lb_PM_least_89 (o : Nat) (M : mv_M) (N : Nat)  (σ : kS) (v3 : Int64) (v5 : Int64) (s1 : Int64) : jb_PM_least_89 N (wr_PM o M σ) o v3 v5 o s1 = (kb_PM_least_89 N σ v3 v5 s1).map (wq_PM o M) := by
  unfold jb_PM_least_89 kb_PM_least_89
  rw [wp_PM_0, Option.bind_some]
  refine km_let ?_
  refine km_ite (fun _ => ?_) (fun _ => ?_)
  · refine km_ite (fun _ => rfl) (fun _ => ?_)
    exact lb_PM_least_111 o M N _ _
  · refine km_ite (fun _ => rfl) (fun _ => ?_)
    exact lb_PM_least_111 o M N _ _
set_option maxHeartbeats 4000000 in
theorem lb_PM_least_45 (o : Nat) (M : mv_M) (N : Nat) : ∀ (n : Nat) (σ : kS) (v1 : Int64) (v3 : Int64) (v5 : Int64) (v7 : Int64), jb_PM_least_45 N n (wr_PM o M σ) o v1 v3 v5 v7 = (kb_PM_least_45 N n σ v1 v3 v5 v7).map (wq_PM o M) := by
  intro n
  induction n with
  | zero => intros; rfl
  | succ n ih =>
    intro σ v1 v3 v5 v7
    rw [jb_PM_least_45, kb_PM_least_45]
    refine km_ite (fun _ => ?_) (fun _ => ?_)
    · refine km_ite (fun _ => ?_) (fun _ => ?_)
      · refine km_ite (fun _ => rfl) (fun _ => ?_)
        exact lb_PM_least_89 o M N _ _ _ _
      · refine km_ite (fun _ => rfl) (fun _ => ?_)
        exact lb_PM_least_89 o M N _ _ _ _
    · refine km_ite (fun _ => rfl) (fun _ => ?_)
      exact ih _ _ _ _ _
set_option maxHeartbeats 4000000 in
theorem lb_PM_least_43 (o : Nat) (M : mv_M) (N : Nat)  (σ : kS) (v1 : Int64) (v3 : Int64) (v5 : Int64) (s0 : Int64) : jb_PM_least_43 N (wr_PM o M σ) o v1 v3 v5 s0 = (kb_PM_least_43 N σ v1 v3 v5 s0).map (wq_PM o M) := by
  unfold jb_PM_least_43 kb_PM_least_43
  exact lb_PM_least_45 o M N N _ _ _ _ _
set_option maxHeartbeats 4000000 in
theorem lb_PM_least_29 (o : Nat) (M : mv_M) (N : Nat)  (σ : kS) (v1 : Int64) (v3 : Int64) (s0 : Int64) : jb_PM_least_29 N (wr_PM o M σ) o v1 v3 s0 = (kb_PM_least_29 N σ v1 v3 s0).map (wq_PM o M) := by
  unfold jb_PM_least_29 kb_PM_least_29
  refine km_ite (fun _ => ?_) (fun _ => ?_)
  · exact lb_PM_least_43 o M N _ _ _ _ _
  · exact lb_PM_least_43 o M N _ _ _ _ _
set_option maxHeartbeats 4000000 in
theorem lb_PM_least_0 (o : Nat) (M : mv_M) (N : Nat)  (σ : kS) (v1 : Int64) (v3 : Int64) : jb_PM_least_0 N (wr_PM o M σ) o v1 v3 = (kb_PM_least_0 N σ v1 v3).map (wq_PM o M) := by
  unfold jb_PM_least_0 kb_PM_least_0
  refine km_ite (fun _ => ?_) (fun _ => ?_)
  · rw [wp_PM_0, Option.bind_some]
    refine km_let ?_
    rw [wp_PM_1, Option.bind_some]
    refine km_let ?_
    rfl
  · refine km_ite (fun _ => ?_) (fun _ => ?_)
    · exact lb_PM_least_29 o M N _ _ _ _
    · exact lb_PM_least_29 o M N _ _ _ _
theorem lf_PM_least (o : Nat) (M : mv_M) (N : Nat) (σ : kS) (v1 : Int64) (v3 : Int64) : jf_PM_least N (wr_PM o M σ) o v1 v3 = (kf_PM_least N σ v1 v3).map (wq_PM o M) := lb_PM_least_0 o M N σ v1 v3
/-! ===== PlainLearnerModel.plus(JJJJ)V ===== -/
def kb_PM_plus_39 (N : Nat) (σ : kS) : Option (Unit × kS) :=
  some ((), σ)
def kb_PM_plus_13 (N : Nat) (σ : kS) : Option (Unit × kS) :=
  kk_call (kf_PM_least N σ 0 0) fun r16 s16 =>
  kb_PM_plus_39 N s16
def kb_PM_plus_0 (N : Nat) (σ : kS) (v1 : Int64) (v3 : Int64) (v5 : Int64) (v7 : Int64) : Option (Unit × kS) :=
  if (lg_cmp v3 0) = 0 then (kb_PM_plus_13 N σ) else
  if (lg_cmp v7 0) = 0 then (kb_PM_plus_13 N σ) else
  kk_call (kf_PM_least N σ ((v1 * v7) + (v5 * v3)) (v3 * v7)) fun r36 s36 =>
  kb_PM_plus_39 N s36
def kf_PM_plus (N : Nat) (σ : kS) (v1 : Int64) (v3 : Int64) (v5 : Int64) (v7 : Int64) : Option (Unit × kS) := kb_PM_plus_0 N σ v1 v3 v5 v7
set_option maxHeartbeats 4000000 in
theorem lb_PM_plus_39 (o : Nat) (M : mv_M) (N : Nat)  (σ : kS) : jb_PM_plus_39 N (wr_PM o M σ) = (kb_PM_plus_39 N σ).map (wq_PM o M) := by
  unfold jb_PM_plus_39 kb_PM_plus_39
  rfl
set_option maxHeartbeats 4000000 in
theorem lb_PM_plus_13 (o : Nat) (M : mv_M) (N : Nat)  (σ : kS) : jb_PM_plus_13 N (wr_PM o M σ) o = (kb_PM_plus_13 N σ).map (wq_PM o M) := by
  unfold jb_PM_plus_13 kb_PM_plus_13
  try rw [wo_PM]
  try rw [lf_PM_least]
  refine km_call (fun r16 s16 => ?_)
  exact lb_PM_plus_39 o M N _
set_option maxHeartbeats 4000000 in
theorem lb_PM_plus_0 (o : Nat) (M : mv_M) (N : Nat)  (σ : kS) (v1 : Int64) (v3 : Int64) (v5 : Int64) (v7 : Int64) : jb_PM_plus_0 N (wr_PM o M σ) o v1 v3 v5 v7 = (kb_PM_plus_0 N σ v1 v3 v5 v7).map (wq_PM o M) := by
  unfold jb_PM_plus_0 kb_PM_plus_0
  refine km_ite (fun _ => ?_) (fun _ => ?_)
  · exact lb_PM_plus_13 o M N _
  · refine km_ite (fun _ => ?_) (fun _ => ?_)
    · exact lb_PM_plus_13 o M N _
    · try rw [wo_PM]
      try rw [lf_PM_least]
      refine km_call (fun r36 s36 => ?_)
      exact lb_PM_plus_39 o M N _
theorem lf_PM_plus (o : Nat) (M : mv_M) (N : Nat) (σ : kS) (v1 : Int64) (v3 : Int64) (v5 : Int64) (v7 : Int64) : jf_PM_plus N (wr_PM o M σ) o v1 v3 v5 v7 = (kf_PM_plus N σ v1 v3 v5 v7).map (wq_PM o M) := lb_PM_plus_0 o M N σ v1 v3 v5 v7
/-! ===== PlainLearnerModel.times(JJJJ)V ===== -/
def kb_PM_times_34 (N : Nat) (σ : kS) : Option (Unit × kS) :=
  some ((), σ)
def kb_PM_times_13 (N : Nat) (σ : kS) : Option (Unit × kS) :=
  kk_call (kf_PM_least N σ 0 0) fun r16 s16 =>
  kb_PM_times_34 N s16
def kb_PM_times_0 (N : Nat) (σ : kS) (v1 : Int64) (v3 : Int64) (v5 : Int64) (v7 : Int64) : Option (Unit × kS) :=
  if (lg_cmp v3 0) = 0 then (kb_PM_times_13 N σ) else
  if (lg_cmp v7 0) = 0 then (kb_PM_times_13 N σ) else
  kk_call (kf_PM_least N σ (v1 * v5) (v3 * v7)) fun r31 s31 =>
  kb_PM_times_34 N s31
def kf_PM_times (N : Nat) (σ : kS) (v1 : Int64) (v3 : Int64) (v5 : Int64) (v7 : Int64) : Option (Unit × kS) := kb_PM_times_0 N σ v1 v3 v5 v7
set_option maxHeartbeats 4000000 in
theorem lb_PM_times_34 (o : Nat) (M : mv_M) (N : Nat)  (σ : kS) : jb_PM_times_34 N (wr_PM o M σ) = (kb_PM_times_34 N σ).map (wq_PM o M) := by
  unfold jb_PM_times_34 kb_PM_times_34
  rfl
set_option maxHeartbeats 4000000 in
theorem lb_PM_times_13 (o : Nat) (M : mv_M) (N : Nat)  (σ : kS) : jb_PM_times_13 N (wr_PM o M σ) o = (kb_PM_times_13 N σ).map (wq_PM o M) := by
  unfold jb_PM_times_13 kb_PM_times_13
  try rw [wo_PM]
  try rw [lf_PM_least]
  refine km_call (fun r16 s16 => ?_)
  exact lb_PM_times_34 o M N _
set_option maxHeartbeats 4000000 in
theorem lb_PM_times_0 (o : Nat) (M : mv_M) (N : Nat)  (σ : kS) (v1 : Int64) (v3 : Int64) (v5 : Int64) (v7 : Int64) : jb_PM_times_0 N (wr_PM o M σ) o v1 v3 v5 v7 = (kb_PM_times_0 N σ v1 v3 v5 v7).map (wq_PM o M) := by
  unfold jb_PM_times_0 kb_PM_times_0
  refine km_ite (fun _ => ?_) (fun _ => ?_)
  · exact lb_PM_times_13 o M N _
  · refine km_ite (fun _ => ?_) (fun _ => ?_)
    · exact lb_PM_times_13 o M N _
    · try rw [wo_PM]
      try rw [lf_PM_least]
      refine km_call (fun r31 s31 => ?_)
      exact lb_PM_times_34 o M N _
theorem lf_PM_times (o : Nat) (M : mv_M) (N : Nat) (σ : kS) (v1 : Int64) (v3 : Int64) (v5 : Int64) (v7 : Int64) : jf_PM_times N (wr_PM o M σ) o v1 v3 v5 v7 = (kf_PM_times N σ v1 v3 v5 v7).map (wq_PM o M) := lb_PM_times_0 o M N σ v1 v3 v5 v7
/-! ===== PlainLearnerModel.over(JJJJ)V ===== -/
def kb_PM_over_34 (N : Nat) (σ : kS) : Option (Unit × kS) :=
  some ((), σ)
def kb_PM_over_13 (N : Nat) (σ : kS) : Option (Unit × kS) :=
  kk_call (kf_PM_least N σ 0 0) fun r16 s16 =>
  kb_PM_over_34 N s16
def kb_PM_over_0 (N : Nat) (σ : kS) (v1 : Int64) (v3 : Int64) (v5 : Int64) (v7 : Int64) : Option (Unit × kS) :=
  if (lg_cmp v3 0) = 0 then (kb_PM_over_13 N σ) else
  if (lg_cmp v7 0) = 0 then (kb_PM_over_13 N σ) else
  kk_call (kf_PM_least N σ (v1 * v7) (v3 * v5)) fun r31 s31 =>
  kb_PM_over_34 N s31
def kf_PM_over (N : Nat) (σ : kS) (v1 : Int64) (v3 : Int64) (v5 : Int64) (v7 : Int64) : Option (Unit × kS) := kb_PM_over_0 N σ v1 v3 v5 v7
set_option maxHeartbeats 4000000 in
theorem lb_PM_over_34 (o : Nat) (M : mv_M) (N : Nat)  (σ : kS) : jb_PM_over_34 N (wr_PM o M σ) = (kb_PM_over_34 N σ).map (wq_PM o M) := by
  unfold jb_PM_over_34 kb_PM_over_34
  rfl
set_option maxHeartbeats 4000000 in
theorem lb_PM_over_13 (o : Nat) (M : mv_M) (N : Nat)  (σ : kS) : jb_PM_over_13 N (wr_PM o M σ) o = (kb_PM_over_13 N σ).map (wq_PM o M) := by
  unfold jb_PM_over_13 kb_PM_over_13
  try rw [wo_PM]
  try rw [lf_PM_least]
  refine km_call (fun r16 s16 => ?_)
  exact lb_PM_over_34 o M N _
set_option maxHeartbeats 4000000 in
theorem lb_PM_over_0 (o : Nat) (M : mv_M) (N : Nat)  (σ : kS) (v1 : Int64) (v3 : Int64) (v5 : Int64) (v7 : Int64) : jb_PM_over_0 N (wr_PM o M σ) o v1 v3 v5 v7 = (kb_PM_over_0 N σ v1 v3 v5 v7).map (wq_PM o M) := by
  unfold jb_PM_over_0 kb_PM_over_0
  refine km_ite (fun _ => ?_) (fun _ => ?_)
  · exact lb_PM_over_13 o M N _
  · refine km_ite (fun _ => ?_) (fun _ => ?_)
    · exact lb_PM_over_13 o M N _
    · try rw [wo_PM]
      try rw [lf_PM_least]
      refine km_call (fun r31 s31 => ?_)
      exact lb_PM_over_34 o M N _
theorem lf_PM_over (o : Nat) (M : mv_M) (N : Nat) (σ : kS) (v1 : Int64) (v3 : Int64) (v5 : Int64) (v7 : Int64) : jf_PM_over N (wr_PM o M σ) o v1 v3 v5 v7 = (kf_PM_over N σ v1 v3 v5 v7).map (wq_PM o M) := lb_PM_over_0 o M N σ v1 v3 v5 v7
/-! ===== PlainLearnerModel.told(I)J ===== -/
def kb_PM_told_15 (N : Nat) (σ : kS) (s0 : Int64) : Option (Int64 × kS) :=
  some (s0, σ)
def kb_PM_told_0 (N : Nat) (σ : kS) (v1 : Int32) : Option (Int64 × kS) :=
  if v1 = 0 then (kb_PM_told_15 N σ (σ.2.1 0)) else
  kb_PM_told_15 N σ (σ.2.1 1)
def kf_PM_told (N : Nat) (σ : kS) (v1 : Int32) : Option (Int64 × kS) := kb_PM_told_0 N σ v1
set_option maxHeartbeats 4000000 in
theorem lb_PM_told_15 (o : Nat) (M : mv_M) (N : Nat)  (σ : kS) (s0 : Int64) : jb_PM_told_15 N (wr_PM o M σ) s0 = (kb_PM_told_15 N σ s0).map (wq_PM o M) := by
  unfold jb_PM_told_15 kb_PM_told_15
  rfl
set_option maxHeartbeats 4000000 in
theorem lb_PM_told_0 (o : Nat) (M : mv_M) (N : Nat)  (σ : kS) (v1 : Int32) : jb_PM_told_0 N (wr_PM o M σ) o v1 = (kb_PM_told_0 N σ v1).map (wq_PM o M) := by
  unfold jb_PM_told_0 kb_PM_told_0
  refine km_ite (fun _ => ?_) (fun _ => ?_)
  · first | rw [wg_PM_0, Option.bind_some] | rw [Option.bind_some]
    exact lb_PM_told_15 o M N _ _
  · first | rw [wg_PM_1, Option.bind_some] | rw [Option.bind_some]
    exact lb_PM_told_15 o M N _ _
theorem lf_PM_told (o : Nat) (M : mv_M) (N : Nat) (σ : kS) (v1 : Int32) : jf_PM_told N (wr_PM o M σ) o v1 = (kf_PM_told N σ v1).map (wq_PM o M) := lb_PM_told_0 o M N σ v1
/-! ===== PlainLearnerModel.sideOf(II)I ===== -/
def kb_PM_sideOf_24 (N : Nat) (σ : kS) (s0 : Int32) : Option (Int32 × kS) :=
  some (s0, σ)
def kb_PM_sideOf_0 (N : Nat) (σ : kS) (v1 : Int32) (v2 : Int32) : Option (Int32 × kS) :=
  Option.bind (mj_tab (σ.2.2.1 6) 50 v1) fun x6 =>
  if x6 ≤ v2 then (kb_PM_sideOf_24 N σ 0) else
  Option.bind (mj_tab (σ.2.2.1 7) 150 ((3 * v1) + v2)) fun x19 =>
  kb_PM_sideOf_24 N σ x19
def kf_PM_sideOf (N : Nat) (σ : kS) (v1 : Int32) (v2 : Int32) : Option (Int32 × kS) := kb_PM_sideOf_0 N σ v1 v2
set_option maxHeartbeats 4000000 in
theorem lb_PM_sideOf_24 (o : Nat) (M : mv_M) (N : Nat)  (σ : kS) (s0 : Int32) : jb_PM_sideOf_24 N (wr_PM o M σ) s0 = (kb_PM_sideOf_24 N σ s0).map (wq_PM o M) := by
  unfold jb_PM_sideOf_24 kb_PM_sideOf_24
  rfl
set_option maxHeartbeats 4000000 in
theorem lb_PM_sideOf_0 (o : Nat) (M : mv_M) (N : Nat)  (σ : kS) (v1 : Int32) (v2 : Int32) : jb_PM_sideOf_0 N (wr_PM o M σ) o v1 v2 = (kb_PM_sideOf_0 N σ v1 v2).map (wq_PM o M) := by
  unfold jb_PM_sideOf_0 kb_PM_sideOf_0
  first | rw [wg_PM_6, Option.bind_some] | rw [Option.bind_some]
  rw [Option.bind_some]
  try rw [wl_PM_6]
  refine km_bind (fun x6 => ?_)
  refine km_ite (fun _ => ?_) (fun _ => ?_)
  · exact lb_PM_sideOf_24 o M N _ _
  · first | rw [wg_PM_7, Option.bind_some] | rw [Option.bind_some]
    rw [Option.bind_some]
    try rw [wl_PM_7]
    refine km_bind (fun x19 => ?_)
    exact lb_PM_sideOf_24 o M N _ _
theorem lf_PM_sideOf (o : Nat) (M : mv_M) (N : Nat) (σ : kS) (v1 : Int32) (v2 : Int32) : jf_PM_sideOf N (wr_PM o M σ) o v1 v2 = (kf_PM_sideOf N σ v1 v2).map (wq_PM o M) := lb_PM_sideOf_0 o M N σ v1 v2
/-! ===== PlainLearnerModel.cells(I)I ===== -/
def kb_PM_cells_4 (N : Nat) : Nat → kS → Int32 → Int32 → Int32 → Option (Int32 × kS)
  | 0, _, _, _, _ => none
  | n + 1, σ, v1, v2, v3 =>
    Option.bind (mj_tab (σ.2.2.1 6) 50 v1) fun x10 =>
    if x10 ≤ v3 then (some (v2, σ)) else
    Option.bind (mj_tab (σ.2.2.1 7) 150 ((3 * v1) + v3)) fun x24 =>
    kb_PM_cells_4 N n σ v1 (v2 * x24) (v3 + 1)
def kb_PM_cells_0 (N : Nat) (σ : kS) (v1 : Int32) : Option (Int32 × kS) :=
  kb_PM_cells_4 N N σ v1 1 0
def kf_PM_cells (N : Nat) (σ : kS) (v1 : Int32) : Option (Int32 × kS) := kb_PM_cells_0 N σ v1
set_option maxHeartbeats 4000000 in
theorem lb_PM_cells_4 (o : Nat) (M : mv_M) (N : Nat) : ∀ (n : Nat) (σ : kS) (v1 : Int32) (v2 : Int32) (v3 : Int32), jb_PM_cells_4 N n (wr_PM o M σ) o v1 v2 v3 = (kb_PM_cells_4 N n σ v1 v2 v3).map (wq_PM o M) := by
  intro n
  induction n with
  | zero => intros; rfl
  | succ n ih =>
    intro σ v1 v2 v3
    rw [jb_PM_cells_4, kb_PM_cells_4]
    first | rw [wg_PM_6, Option.bind_some] | rw [Option.bind_some]
    rw [Option.bind_some]
    try rw [wl_PM_6]
    refine km_bind (fun x10 => ?_)
    refine km_ite (fun _ => ?_) (fun _ => ?_)
    · rfl
    · first | rw [wg_PM_7, Option.bind_some] | rw [Option.bind_some]
      rw [Option.bind_some]
      try rw [wl_PM_7]
      refine km_bind (fun x24 => ?_)
      exact ih _ _ _ _
set_option maxHeartbeats 4000000 in
theorem lb_PM_cells_0 (o : Nat) (M : mv_M) (N : Nat)  (σ : kS) (v1 : Int32) : jb_PM_cells_0 N (wr_PM o M σ) o v1 = (kb_PM_cells_0 N σ v1).map (wq_PM o M) := by
  unfold jb_PM_cells_0 kb_PM_cells_0
  exact lb_PM_cells_4 o M N N _ _ _ _
theorem lf_PM_cells (o : Nat) (M : mv_M) (N : Nat) (σ : kS) (v1 : Int32) : jf_PM_cells N (wr_PM o M σ) o v1 = (kf_PM_cells N σ v1).map (wq_PM o M) := lb_PM_cells_0 o M N σ v1
/-! ===== PlainLearnerModel.isNode(I)Z ===== -/
def kb_PM_isNode_0 (N : Nat) (σ : kS) (v1 : Int32) : Option (Int32 × kS) :=
  Option.bind (kf_PM_isIn N v1.toInt64 0 (((σ.1 2) - 1).toInt64)) fun r10 =>
  if r10 = 0 ∨ r10 = 1 then some (r10, σ) else none
def kf_PM_isNode (N : Nat) (σ : kS) (v1 : Int32) : Option (Int32 × kS) := kb_PM_isNode_0 N σ v1
set_option maxHeartbeats 4000000 in
theorem lb_PM_isNode_0 (o : Nat) (M : mv_M) (N : Nat)  (σ : kS) (v1 : Int32) : jb_PM_isNode_0 N (wr_PM o M σ) o v1 = (kb_PM_isNode_0 N σ v1).map (wq_PM o M) := by
  unfold jb_PM_isNode_0 kb_PM_isNode_0
  first | rw [wg_PM_2, Option.bind_some] | rw [Option.bind_some]
  try rw [lf_PM_isIn]
  refine km_callP (fun r10 => ?_)
  refine km_ite (fun _ => rfl) (fun _ => rfl)
theorem lf_PM_isNode (o : Nat) (M : mv_M) (N : Nat) (σ : kS) (v1 : Int32) : jf_PM_isNode N (wr_PM o M σ) o v1 = (kf_PM_isNode N σ v1).map (wq_PM o M) := lb_PM_isNode_0 o M N σ v1
/-! ===== PlainLearnerModel.leaf(IIII)I ===== -/
def kb_PM_leaf_93 (N : Nat) (σ : kS) : Option (Int32 × kS) :=
  some ((-3), σ)
def kb_PM_leaf_192 (N : Nat) : Nat → kS → Int32 → Int32 → Option (Int32 × kS)
  | 0, _, _, _ => none
  | n + 1, σ, v5, v6 =>
    if v5 ≤ v6 then (kk_let (kI σ 2 ((σ.1 2) + 1)) fun s245 =>
    some ((σ.1 2), s245)) else
    mj_gd ((64 * (σ.1 2)) + v6) 3200 <| kk_let (kB σ 9 ((64 * (σ.1 2)) + v6).toNatClampNeg 0) fun s214 =>
    mj_gd ((64 * (s214.1 2)) + v6) 3200 <| kk_let (kB s214 10 ((64 * (s214.1 2)) + v6).toNatClampNeg 1) fun s230 =>
    kb_PM_leaf_192 N n s230 v5 (v6 + 1)
def kb_PM_leaf_182 (N : Nat) (c142 : kS → Int32 → Int32 → Int32 → Int32 → Int32 → Int32 → Option (Int32 × kS)) (σ : kS) (v1 : Int32) (v2 : Int32) (v3 : Int32) (v4 : Int32) (v5 : Int32) (v6 : Int32) (s1 : Int32) (s2 : Int32) : Option (Int32 × kS) :=
  mj_gd s1 150 <| kk_let (kA σ 7 s1.toNatClampNeg s2) fun s182 =>
  c142 s182 v1 v2 v3 v4 v5 (v6 + 1)
def kb_PM_leaf_142 (N : Nat) : Nat → kS → Int32 → Int32 → Int32 → Int32 → Int32 → Int32 → Option (Int32 × kS)
  | 0, _, _, _, _, _, _, _ => none
  | n + 1, σ, v1, v2, v3, v4, v5, v6 =>
    if v1 ≤ v6 then (kb_PM_leaf_192 N N σ v5 0) else
    if v6 = 0 then (kb_PM_leaf_182 N (kb_PM_leaf_142 N n) σ v1 v2 v3 v4 v5 v6 ((3 * (σ.1 2)) + v6) v2) else
    if v6 = 1 then (kb_PM_leaf_182 N (kb_PM_leaf_142 N n) σ v1 v2 v3 v4 v5 v6 ((3 * (σ.1 2)) + v6) v3) else
    kb_PM_leaf_182 N (kb_PM_leaf_142 N n) σ v1 v2 v3 v4 v5 v6 ((3 * (σ.1 2)) + v6) v4
def kb_PM_leaf_47 (N : Nat) (c20 : kS → Int32 → Int32 → Int32 → Int32 → Int32 → Int32 → Option (Int32 × kS)) (σ : kS) (v1 : Int32) (v2 : Int32) (v3 : Int32) (v4 : Int32) (v5 : Int32) (v6 : Int32) (s0 : Int32) : Option (Int32 × kS) :=
  Option.bind (kf_PM_isIn N s0.toInt64 1 64) fun r56 =>
  if r56 = 0 then (some ((-1), σ)) else
  c20 σ v1 v2 v3 v4 (v5 * s0) (v6 + 1)
def kb_PM_leaf_20 (N : Nat) : Nat → kS → Int32 → Int32 → Int32 → Int32 → Int32 → Int32 → Option (Int32 × kS)
  | 0, _, _, _, _, _, _, _ => none
  | n + 1, σ, v1, v2, v3, v4, v5, v6 =>
    if v1 ≤ v6 then (if (σ.1 2) = 50 then (kb_PM_leaf_93 N σ) else
    if v5 ≤ 64 then (mj_gd (σ.1 2) 50 <| kk_let (kA σ 3 (σ.1 2).toNatClampNeg (-2)) fun s106 =>
    mj_gd (s106.1 2) 50 <| kk_let (kA s106 4 (s106.1 2).toNatClampNeg (-2)) fun s117 =>
    mj_gd (s117.1 2) 50 <| kk_let (kA s117 5 (s117.1 2).toNatClampNeg (-2)) fun s128 =>
    mj_gd (s128.1 2) 50 <| kk_let (kA s128 6 (s128.1 2).toNatClampNeg v1) fun s138 =>
    kb_PM_leaf_142 N N s138 v1 v2 v3 v4 v5 0) else
    kb_PM_leaf_93 N σ) else
    if v6 = 0 then (kb_PM_leaf_47 N (kb_PM_leaf_20 N n) σ v1 v2 v3 v4 v5 v6 v2) else
    if v6 = 1 then (kb_PM_leaf_47 N (kb_PM_leaf_20 N n) σ v1 v2 v3 v4 v5 v6 v3) else
    kb_PM_leaf_47 N (kb_PM_leaf_20 N n) σ v1 v2 v3 v4 v5 v6 v4
def kb_PM_leaf_0 (N : Nat) (σ : kS) (v1 : Int32) (v2 : Int32) (v3 : Int32) (v4 : Int32) : Option (Int32 × kS) :=
  Option.bind (kf_PM_isIn N v1.toInt64 0 3) fun r6 =>
  if r6 = 0 then (some ((-1), σ)) else
  kb_PM_leaf_20 N N σ v1 v2 v3 v4 1 0
def kf_PM_leaf (N : Nat) (σ : kS) (v1 : Int32) (v2 : Int32) (v3 : Int32) (v4 : Int32) : Option (Int32 × kS) := kb_PM_leaf_0 N σ v1 v2 v3 v4
set_option maxHeartbeats 4000000 in
theorem lb_PM_leaf_93 (o : Nat) (M : mv_M) (N : Nat)  (σ : kS) : jb_PM_leaf_93 N (wr_PM o M σ) = (kb_PM_leaf_93 N σ).map (wq_PM o M) := by
  unfold jb_PM_leaf_93 kb_PM_leaf_93
  rfl
set_option maxHeartbeats 4000000 in
theorem lb_PM_leaf_192 (o : Nat) (M : mv_M) (N : Nat) : ∀ (n : Nat) (σ : kS) (v5 : Int32) (v6 : Int32), jb_PM_leaf_192 N n (wr_PM o M σ) o v5 v6 = (kb_PM_leaf_192 N n σ v5 v6).map (wq_PM o M) := by
  intro n
  induction n with
  | zero => intros; rfl
  | succ n ih =>
    intro σ v5 v6
    rw [jb_PM_leaf_192, kb_PM_leaf_192]
    refine km_ite (fun _ => ?_) (fun _ => ?_)
    · first | rw [wg_PM_2, Option.bind_some] | rw [Option.bind_some]
      rw [wp_PM_2, Option.bind_some]
      refine km_let ?_
      rfl
    · first | rw [wg_PM_9, Option.bind_some] | rw [Option.bind_some]
      first | rw [wg_PM_2, Option.bind_some] | rw [Option.bind_some]
      rw [Option.bind_some]
      rw [wx_PM_9]
      refine km_gd (fun _ => ?_)
      refine km_let ?_
      skip
      first | rw [wg_PM_10, Option.bind_some] | rw [Option.bind_some]
      first | rw [wg_PM_2, Option.bind_some] | rw [Option.bind_some]
      rw [Option.bind_some]
      rw [wx_PM_10]
      refine km_gd (fun _ => ?_)
      refine km_let ?_
      skip
      exact ih _ _ _
set_option maxHeartbeats 4000000 in
theorem lb_PM_leaf_182 (o : Nat) (M : mv_M) (N : Nat) (k142 : mv_M → Nat → Int32 → Int32 → Int32 → Int32 → Int32 → Int32 → Option (Int32 × mv_M)) (c142 : kS → Int32 → Int32 → Int32 → Int32 → Int32 → Int32 → Option (Int32 × kS)) (hc142 : ∀ (σ : kS) (v1 : Int32) (v2 : Int32) (v3 : Int32) (v4 : Int32) (v5 : Int32) (v6 : Int32), k142 (wr_PM o M σ) o v1 v2 v3 v4 v5 v6 = (c142 σ v1 v2 v3 v4 v5 v6).map (wq_PM o M))  (σ : kS) (v1 : Int32) (v2 : Int32) (v3 : Int32) (v4 : Int32) (v5 : Int32) (v6 : Int32) (s1 : Int32) (s2 : Int32) : jb_PM_leaf_182 N k142 (wr_PM o M σ) o v1 v2 v3 v4 v5 v6 (some (o + 5)) s1 s2 = (kb_PM_leaf_182 N c142 σ v1 v2 v3 v4 v5 v6 s1 s2).map (wq_PM o M) := by
  unfold jb_PM_leaf_182 kb_PM_leaf_182
  rw [Option.bind_some]
  rw [wx_PM_7]
  refine km_gd (fun _ => ?_)
  refine km_let ?_
  exact hc142 _ _ _ _ _ _ _
set_option maxHeartbeats 4000000 in
theorem lb_PM_leaf_142 (o : Nat) (M : mv_M) (N : Nat) : ∀ (n : Nat) (σ : kS) (v1 : Int32) (v2 : Int32) (v3 : Int32) (v4 : Int32) (v5 : Int32) (v6 : Int32), jb_PM_leaf_142 N n (wr_PM o M σ) o v1 v2 v3 v4 v5 v6 = (kb_PM_leaf_142 N n σ v1 v2 v3 v4 v5 v6).map (wq_PM o M) := by
  intro n
  induction n with
  | zero => intros; rfl
  | succ n ih =>
    intro σ v1 v2 v3 v4 v5 v6
    rw [jb_PM_leaf_142, kb_PM_leaf_142]
    refine km_ite (fun _ => ?_) (fun _ => ?_)
    · exact lb_PM_leaf_192 o M N N _ _ _
    · first | rw [wg_PM_7, Option.bind_some] | rw [Option.bind_some]
      first | rw [wg_PM_2, Option.bind_some] | rw [Option.bind_some]
      refine km_ite (fun _ => ?_) (fun _ => ?_)
      · exact lb_PM_leaf_182 o M N _ _ ih _ _ _ _ _ _ _ _ _
      · refine km_ite (fun _ => ?_) (fun _ => ?_)
        · exact lb_PM_leaf_182 o M N _ _ ih _ _ _ _ _ _ _ _ _
        · exact lb_PM_leaf_182 o M N _ _ ih _ _ _ _ _ _ _ _ _
set_option maxHeartbeats 4000000 in
theorem lb_PM_leaf_47 (o : Nat) (M : mv_M) (N : Nat) (k20 : mv_M → Nat → Int32 → Int32 → Int32 → Int32 → Int32 → Int32 → Option (Int32 × mv_M)) (c20 : kS → Int32 → Int32 → Int32 → Int32 → Int32 → Int32 → Option (Int32 × kS)) (hc20 : ∀ (σ : kS) (v1 : Int32) (v2 : Int32) (v3 : Int32) (v4 : Int32) (v5 : Int32) (v6 : Int32), k20 (wr_PM o M σ) o v1 v2 v3 v4 v5 v6 = (c20 σ v1 v2 v3 v4 v5 v6).map (wq_PM o M))  (σ : kS) (v1 : Int32) (v2 : Int32) (v3 : Int32) (v4 : Int32) (v5 : Int32) (v6 : Int32) (s0 : Int32) : jb_PM_leaf_47 N k20 (wr_PM o M σ) o v1 v2 v3 v4 v5 v6 s0 = (kb_PM_leaf_47 N c20 σ v1 v2 v3 v4 v5 v6 s0).map (wq_PM o M) := by
  unfold jb_PM_leaf_47 kb_PM_leaf_47
  try rw [lf_PM_isIn]
  refine km_callP (fun r56 => ?_)
  refine km_ite (fun _ => ?_) (fun _ => ?_)
  · rfl
  · exact hc20 _ _ _ _ _ _ _
set_option maxHeartbeats 4000000 in
theorem lb_PM_leaf_20 (o : Nat) (M : mv_M) (N : Nat) : ∀ (n : Nat) (σ : kS) (v1 : Int32) (v2 : Int32) (v3 : Int32) (v4 : Int32) (v5 : Int32) (v6 : Int32), jb_PM_leaf_20 N n (wr_PM o M σ) o v1 v2 v3 v4 v5 v6 = (kb_PM_leaf_20 N n σ v1 v2 v3 v4 v5 v6).map (wq_PM o M) := by
  intro n
  induction n with
  | zero => intros; rfl
  | succ n ih =>
    intro σ v1 v2 v3 v4 v5 v6
    rw [jb_PM_leaf_20, kb_PM_leaf_20]
    refine km_ite (fun _ => ?_) (fun _ => ?_)
    · first | rw [wg_PM_2, Option.bind_some] | rw [Option.bind_some]
      refine km_ite (fun _ => ?_) (fun _ => ?_)
      · exact lb_PM_leaf_93 o M N _
      · refine km_ite (fun _ => ?_) (fun _ => ?_)
        · first | rw [wg_PM_3, Option.bind_some] | rw [Option.bind_some]
          first | rw [wg_PM_2, Option.bind_some] | rw [Option.bind_some]
          rw [Option.bind_some]
          rw [wx_PM_3]
          refine km_gd (fun _ => ?_)
          refine km_let ?_
          skip
          first | rw [wg_PM_4, Option.bind_some] | rw [Option.bind_some]
          first | rw [wg_PM_2, Option.bind_some] | rw [Option.bind_some]
          rw [Option.bind_some]
          rw [wx_PM_4]
          refine km_gd (fun _ => ?_)
          refine km_let ?_
          skip
          first | rw [wg_PM_5, Option.bind_some] | rw [Option.bind_some]
          first | rw [wg_PM_2, Option.bind_some] | rw [Option.bind_some]
          rw [Option.bind_some]
          rw [wx_PM_5]
          refine km_gd (fun _ => ?_)
          refine km_let ?_
          skip
          first | rw [wg_PM_6, Option.bind_some] | rw [Option.bind_some]
          first | rw [wg_PM_2, Option.bind_some] | rw [Option.bind_some]
          rw [Option.bind_some]
          rw [wx_PM_6]
          refine km_gd (fun _ => ?_)
          refine km_let ?_
          skip
          exact lb_PM_leaf_142 o M N N _ _ _ _ _ _ _
        · exact lb_PM_leaf_93 o M N _
    · refine km_ite (fun _ => ?_) (fun _ => ?_)
      · exact lb_PM_leaf_47 o M N _ _ ih _ _ _ _ _ _ _ _
      · refine km_ite (fun _ => ?_) (fun _ => ?_)
        · exact lb_PM_leaf_47 o M N _ _ ih _ _ _ _ _ _ _ _
        · exact lb_PM_leaf_47 o M N _ _ ih _ _ _ _ _ _ _ _
set_option maxHeartbeats 4000000 in
theorem lb_PM_leaf_0 (o : Nat) (M : mv_M) (N : Nat)  (σ : kS) (v1 : Int32) (v2 : Int32) (v3 : Int32) (v4 : Int32) : jb_PM_leaf_0 N (wr_PM o M σ) o v1 v2 v3 v4 = (kb_PM_leaf_0 N σ v1 v2 v3 v4).map (wq_PM o M) := by
  unfold jb_PM_leaf_0 kb_PM_leaf_0
  try rw [lf_PM_isIn]
  refine km_callP (fun r6 => ?_)
  refine km_ite (fun _ => ?_) (fun _ => ?_)
  · rfl
  · exact lb_PM_leaf_20 o M N N _ _ _ _ _ _ _
theorem lf_PM_leaf (o : Nat) (M : mv_M) (N : Nat) (σ : kS) (v1 : Int32) (v2 : Int32) (v3 : Int32) (v4 : Int32) : jf_PM_leaf N (wr_PM o M σ) o v1 v2 v3 v4 = (kf_PM_leaf N σ v1 v2 v3 v4).map (wq_PM o M) := lb_PM_leaf_0 o M N σ v1 v2 v3 v4
/-! ===== PlainLearnerModel.isLeaf(I)Z ===== -/
def kb_PM_isLeaf_24 (N : Nat) (σ : kS) (s0 : Int32) : Option (Int32 × kS) :=
  if s0 = 0 ∨ s0 = 1 then some (s0, σ) else none
def kb_PM_isLeaf_23 (N : Nat) (σ : kS) : Option (Int32 × kS) :=
  kb_PM_isLeaf_24 N σ 0
def kb_PM_isLeaf_0 (N : Nat) (σ : kS) (v1 : Int32) : Option (Int32 × kS) :=
  kk_call (kf_PM_isNode N σ v1) fun r2 s2 =>
  if r2 = 0 then (kb_PM_isLeaf_23 N s2) else
  Option.bind (mj_tab (s2.2.2.1 3) 50 v1) fun x13 =>
  if x13 = (-2) then (kb_PM_isLeaf_24 N s2 1) else
  kb_PM_isLeaf_23 N s2
def kf_PM_isLeaf (N : Nat) (σ : kS) (v1 : Int32) : Option (Int32 × kS) := kb_PM_isLeaf_0 N σ v1
set_option maxHeartbeats 4000000 in
theorem lb_PM_isLeaf_24 (o : Nat) (M : mv_M) (N : Nat)  (σ : kS) (s0 : Int32) : jb_PM_isLeaf_24 N (wr_PM o M σ) s0 = (kb_PM_isLeaf_24 N σ s0).map (wq_PM o M) := by
  unfold jb_PM_isLeaf_24 kb_PM_isLeaf_24
  refine km_ite (fun _ => rfl) (fun _ => rfl)
set_option maxHeartbeats 4000000 in
theorem lb_PM_isLeaf_23 (o : Nat) (M : mv_M) (N : Nat)  (σ : kS) : jb_PM_isLeaf_23 N (wr_PM o M σ) = (kb_PM_isLeaf_23 N σ).map (wq_PM o M) := by
  unfold jb_PM_isLeaf_23 kb_PM_isLeaf_23
  exact lb_PM_isLeaf_24 o M N _ _
set_option maxHeartbeats 4000000 in
theorem lb_PM_isLeaf_0 (o : Nat) (M : mv_M) (N : Nat)  (σ : kS) (v1 : Int32) : jb_PM_isLeaf_0 N (wr_PM o M σ) o v1 = (kb_PM_isLeaf_0 N σ v1).map (wq_PM o M) := by
  unfold jb_PM_isLeaf_0 kb_PM_isLeaf_0
  try rw [wo_PM]
  try rw [lf_PM_isNode]
  refine km_call (fun r2 s2 => ?_)
  refine km_ite (fun _ => ?_) (fun _ => ?_)
  · exact lb_PM_isLeaf_23 o M N _
  · first | rw [wg_PM_3, Option.bind_some] | rw [Option.bind_some]
    rw [Option.bind_some]
    try rw [wl_PM_3]
    refine km_bind (fun x13 => ?_)
    refine km_ite (fun _ => ?_) (fun _ => ?_)
    · exact lb_PM_isLeaf_24 o M N _ _
    · exact lb_PM_isLeaf_23 o M N _
theorem lf_PM_isLeaf (o : Nat) (M : mv_M) (N : Nat) (σ : kS) (v1 : Int32) : jf_PM_isLeaf N (wr_PM o M σ) o v1 = (kf_PM_isLeaf N σ v1).map (wq_PM o M) := lb_PM_isLeaf_0 o M N σ v1
/-! ===== PlainLearnerModel.tell(IIII)I ===== -/
def kb_PM_tell_25 (N : Nat) (σ : kS) : Option (Int32 × kS) :=
  some ((-1), σ)
def kb_PM_tell_80 (N : Nat) (σ : kS) (s0 : Int32) : Option (Int32 × kS) :=
  some (s0, σ)
def kb_PM_tell_0 (N : Nat) (σ : kS) (v1 : Int32) (v2 : Int32) (v3 : Int32) (v4 : Int32) : Option (Int32 × kS) :=
  kk_call (kf_PM_isLeaf N σ v1) fun r2 s2 =>
  if r2 = 0 then (kb_PM_tell_25 N s2) else
  kk_call (kf_PM_cells N s2 v1) fun r13 s13 =>
  Option.bind (kf_PM_isIn N v2.toInt64 0 ((r13 - 1).toInt64)) fun r19 =>
  if r19 = 0 then (kb_PM_tell_25 N s13) else
  kk_call (kf_PM_least N s13 v3.toInt64 v4.toInt64) fun r33 s33 =>
  mj_gd ((64 * v1) + v2) 3200 <| kk_let (kB s33 9 ((64 * v1) + v2).toNatClampNeg (s33.2.1 0)) fun s50 =>
  mj_gd ((64 * v1) + v2) 3200 <| kk_let (kB s50 10 ((64 * v1) + v2).toNatClampNeg (s50.2.1 1)) fun s65 =>
  if (lg_cmp (s65.2.1 1) 0) = 0 then (kb_PM_tell_80 N s65 1) else
  kb_PM_tell_80 N s65 0
def kf_PM_tell (N : Nat) (σ : kS) (v1 : Int32) (v2 : Int32) (v3 : Int32) (v4 : Int32) : Option (Int32 × kS) := kb_PM_tell_0 N σ v1 v2 v3 v4
set_option maxHeartbeats 4000000 in
theorem lb_PM_tell_25 (o : Nat) (M : mv_M) (N : Nat)  (σ : kS) : jb_PM_tell_25 N (wr_PM o M σ) = (kb_PM_tell_25 N σ).map (wq_PM o M) := by
  unfold jb_PM_tell_25 kb_PM_tell_25
  rfl
set_option maxHeartbeats 4000000 in
theorem lb_PM_tell_80 (o : Nat) (M : mv_M) (N : Nat)  (σ : kS) (s0 : Int32) : jb_PM_tell_80 N (wr_PM o M σ) s0 = (kb_PM_tell_80 N σ s0).map (wq_PM o M) := by
  unfold jb_PM_tell_80 kb_PM_tell_80
  rfl
set_option maxHeartbeats 4000000 in
theorem lb_PM_tell_0 (o : Nat) (M : mv_M) (N : Nat)  (σ : kS) (v1 : Int32) (v2 : Int32) (v3 : Int32) (v4 : Int32) : jb_PM_tell_0 N (wr_PM o M σ) o v1 v2 v3 v4 = (kb_PM_tell_0 N σ v1 v2 v3 v4).map (wq_PM o M) := by
  unfold jb_PM_tell_0 kb_PM_tell_0
  try rw [wo_PM]
  try rw [lf_PM_isLeaf]
  refine km_call (fun r2 s2 => ?_)
  refine km_ite (fun _ => ?_) (fun _ => ?_)
  · exact lb_PM_tell_25 o M N _
  · try rw [wo_PM]
    try rw [lf_PM_cells]
    refine km_call (fun r13 s13 => ?_)
    try rw [lf_PM_isIn]
    refine km_callP (fun r19 => ?_)
    refine km_ite (fun _ => ?_) (fun _ => ?_)
    · exact lb_PM_tell_25 o M N _
    · try rw [wo_PM]
      try rw [lf_PM_least]
      refine km_call (fun r33 s33 => ?_)
      first | rw [wg_PM_9, Option.bind_some] | rw [Option.bind_some]
      first | rw [wg_PM_0, Option.bind_some] | rw [Option.bind_some]
      rw [Option.bind_some]
      rw [wx_PM_9]
      refine km_gd (fun _ => ?_)
      refine km_let ?_
      skip
      first | rw [wg_PM_10, Option.bind_some] | rw [Option.bind_some]
      first | rw [wg_PM_1, Option.bind_some] | rw [Option.bind_some]
      rw [Option.bind_some]
      rw [wx_PM_10]
      refine km_gd (fun _ => ?_)
      refine km_let ?_
      skip
      first | rw [wg_PM_1, Option.bind_some] | rw [Option.bind_some]
      refine km_ite (fun _ => ?_) (fun _ => ?_)
      · exact lb_PM_tell_80 o M N _ _
      · exact lb_PM_tell_80 o M N _ _
theorem lf_PM_tell (o : Nat) (M : mv_M) (N : Nat) (σ : kS) (v1 : Int32) (v2 : Int32) (v3 : Int32) (v4 : Int32) : jf_PM_tell N (wr_PM o M σ) o v1 v2 v3 v4 = (kf_PM_tell N σ v1 v2 v3 v4).map (wq_PM o M) := lb_PM_tell_0 o M N σ v1 v2 v3 v4
/-! ===== PlainLearnerModel.spreads(II)Z ===== -/
def kb_PM_spreads_153 (N : Nat) (c34 : kS → Int32 → Int32 → Int32 → Int32 → Option (Int32 × kS)) (σ : kS) (v1 : Int32) (v2 : Int32) (v3 : Int32) (v4 : Int32) (s1 : Int32) (s2 : Int32) : Option (Int32 × kS) :=
  mj_gd s1 3 <| kk_let (kA σ 12 s1.toNatClampNeg s2) fun s153 =>
  c34 s153 v1 v2 v3 (v4 + 1)
def kb_PM_spreads_131 (N : Nat) (c34 : kS → Int32 → Int32 → Int32 → Int32 → Option (Int32 × kS)) (σ : kS) (v1 : Int32) (v2 : Int32) (v3 : Int32) (v4 : Int32) (v5 : Int32) (v6 : Int32) : Option (Int32 × kS) :=
  if v5 ≤ v6 then (kb_PM_spreads_153 N c34 σ v1 v2 v3 v4 (v3 - v4) v6) else
  kb_PM_spreads_153 N c34 σ v1 v2 v3 v4 (v3 - v4) v5
def kb_PM_spreads_108 (N : Nat) (c34 : kS → Int32 → Int32 → Int32 → Int32 → Option (Int32 × kS)) (σ : kS) (v1 : Int32) (v2 : Int32) (v3 : Int32) (v4 : Int32) (v5 : Int32) (s0 : Int32) : Option (Int32 × kS) :=
  if v5 = s0 then (kb_PM_spreads_131 N c34 σ v1 v2 v3 v4 v5 s0) else
  if v5 = 1 then (kb_PM_spreads_131 N c34 σ v1 v2 v3 v4 v5 s0) else
  if s0 = 1 then (kb_PM_spreads_131 N c34 σ v1 v2 v3 v4 v5 s0) else
  if (0 : Int32) = 0 ∨ (0 : Int32) = 1 then some (0, σ) else none
def kb_PM_spreads_73 (N : Nat) (c34 : kS → Int32 → Int32 → Int32 → Int32 → Option (Int32 × kS)) (σ : kS) (v1 : Int32) (v2 : Int32) (v3 : Int32) (v4 : Int32) (s0 : Int32) : Option (Int32 × kS) :=
  Option.bind (mj_tab (σ.2.2.1 6) 50 v2) fun x82 =>
  if x82 < v4 then (kb_PM_spreads_108 N c34 σ v1 v2 v3 v4 s0 1) else
  Option.bind (mj_tab (σ.2.2.1 6) 50 v2) fun x98 =>
  Option.bind (mj_tab (σ.2.2.1 7) 150 (((3 * v2) + x98) - v4)) fun x103 =>
  kb_PM_spreads_108 N c34 σ v1 v2 v3 v4 s0 x103
def kb_PM_spreads_34 (N : Nat) : Nat → kS → Int32 → Int32 → Int32 → Int32 → Option (Int32 × kS)
  | 0, _, _, _, _, _ => none
  | n + 1, σ, v1, v2, v3, v4 =>
    if v3 < v4 then (kk_let (kI σ 11 v3) fun s162 =>
    if (1 : Int32) = 0 ∨ (1 : Int32) = 1 then some (1, s162) else none) else
    Option.bind (mj_tab (σ.2.2.1 6) 50 v1) fun x47 =>
    if x47 < v4 then (kb_PM_spreads_73 N (kb_PM_spreads_34 N n) σ v1 v2 v3 v4 1) else
    Option.bind (mj_tab (σ.2.2.1 6) 50 v1) fun x63 =>
    Option.bind (mj_tab (σ.2.2.1 7) 150 (((3 * v1) + x63) - v4)) fun x68 =>
    kb_PM_spreads_73 N (kb_PM_spreads_34 N n) σ v1 v2 v3 v4 x68
def kb_PM_spreads_30 (N : Nat) (σ : kS) (v1 : Int32) (v2 : Int32) (s0 : Int32) : Option (Int32 × kS) :=
  kb_PM_spreads_34 N N σ v1 v2 s0 1
def kb_PM_spreads_0 (N : Nat) (σ : kS) (v1 : Int32) (v2 : Int32) : Option (Int32 × kS) :=
  Option.bind (mj_tab (σ.2.2.1 6) 50 v1) fun x5 =>
  Option.bind (mj_tab (σ.2.2.1 6) 50 v2) fun x11 =>
  if x5 ≤ x11 then (Option.bind (mj_tab (σ.2.2.1 6) 50 v2) fun x29 =>
  kb_PM_spreads_30 N σ v1 v2 x29) else
  Option.bind (mj_tab (σ.2.2.1 6) 50 v1) fun x20 =>
  kb_PM_spreads_30 N σ v1 v2 x20
def kf_PM_spreads (N : Nat) (σ : kS) (v1 : Int32) (v2 : Int32) : Option (Int32 × kS) := kb_PM_spreads_0 N σ v1 v2
set_option maxHeartbeats 4000000 in
theorem lb_PM_spreads_153 (o : Nat) (M : mv_M) (N : Nat) (k34 : mv_M → Nat → Int32 → Int32 → Int32 → Int32 → Option (Int32 × mv_M)) (c34 : kS → Int32 → Int32 → Int32 → Int32 → Option (Int32 × kS)) (hc34 : ∀ (σ : kS) (v1 : Int32) (v2 : Int32) (v3 : Int32) (v4 : Int32), k34 (wr_PM o M σ) o v1 v2 v3 v4 = (c34 σ v1 v2 v3 v4).map (wq_PM o M))  (σ : kS) (v1 : Int32) (v2 : Int32) (v3 : Int32) (v4 : Int32) (s1 : Int32) (s2 : Int32) : jb_PM_spreads_153 N k34 (wr_PM o M σ) o v1 v2 v3 v4 (some (o + 9)) s1 s2 = (kb_PM_spreads_153 N c34 σ v1 v2 v3 v4 s1 s2).map (wq_PM o M) := by
  unfold jb_PM_spreads_153 kb_PM_spreads_153
  rw [Option.bind_some]
  rw [wx_PM_12]
  refine km_gd (fun _ => ?_)
  refine km_let ?_
  exact hc34 _ _ _ _ _
set_option maxHeartbeats 4000000 in
theorem lb_PM_spreads_131 (o : Nat) (M : mv_M) (N : Nat) (k34 : mv_M → Nat → Int32 → Int32 → Int32 → Int32 → Option (Int32 × mv_M)) (c34 : kS → Int32 → Int32 → Int32 → Int32 → Option (Int32 × kS)) (hc34 : ∀ (σ : kS) (v1 : Int32) (v2 : Int32) (v3 : Int32) (v4 : Int32), k34 (wr_PM o M σ) o v1 v2 v3 v4 = (c34 σ v1 v2 v3 v4).map (wq_PM o M))  (σ : kS) (v1 : Int32) (v2 : Int32) (v3 : Int32) (v4 : Int32) (v5 : Int32) (v6 : Int32) : jb_PM_spreads_131 N k34 (wr_PM o M σ) o v1 v2 v3 v4 v5 v6 = (kb_PM_spreads_131 N c34 σ v1 v2 v3 v4 v5 v6).map (wq_PM o M) := by
  unfold jb_PM_spreads_131 kb_PM_spreads_131
  first | rw [wg_PM_12, Option.bind_some] | rw [Option.bind_some]
  refine km_ite (fun _ => ?_) (fun _ => ?_)
  · exact lb_PM_spreads_153 o M N _ _ hc34 _ _ _ _ _ _ _
  · exact lb_PM_spreads_153 o M N _ _ hc34 _ _ _ _ _ _ _
set_option maxHeartbeats 4000000 in
theorem lb_PM_spreads_108 (o : Nat) (M : mv_M) (N : Nat) (k34 : mv_M → Nat → Int32 → Int32 → Int32 → Int32 → Option (Int32 × mv_M)) (c34 : kS → Int32 → Int32 → Int32 → Int32 → Option (Int32 × kS)) (hc34 : ∀ (σ : kS) (v1 : Int32) (v2 : Int32) (v3 : Int32) (v4 : Int32), k34 (wr_PM o M σ) o v1 v2 v3 v4 = (c34 σ v1 v2 v3 v4).map (wq_PM o M))  (σ : kS) (v1 : Int32) (v2 : Int32) (v3 : Int32) (v4 : Int32) (v5 : Int32) (s0 : Int32) : jb_PM_spreads_108 N k34 (wr_PM o M σ) o v1 v2 v3 v4 v5 s0 = (kb_PM_spreads_108 N c34 σ v1 v2 v3 v4 v5 s0).map (wq_PM o M) := by
  unfold jb_PM_spreads_108 kb_PM_spreads_108
  refine km_ite (fun _ => ?_) (fun _ => ?_)
  · exact lb_PM_spreads_131 o M N _ _ hc34 _ _ _ _ _ _ _
  · refine km_ite (fun _ => ?_) (fun _ => ?_)
    · exact lb_PM_spreads_131 o M N _ _ hc34 _ _ _ _ _ _ _
    · refine km_ite (fun _ => ?_) (fun _ => ?_)
      · exact lb_PM_spreads_131 o M N _ _ hc34 _ _ _ _ _ _ _
      · refine km_ite (fun _ => rfl) (fun _ => rfl)
set_option maxHeartbeats 4000000 in
theorem lb_PM_spreads_73 (o : Nat) (M : mv_M) (N : Nat) (k34 : mv_M → Nat → Int32 → Int32 → Int32 → Int32 → Option (Int32 × mv_M)) (c34 : kS → Int32 → Int32 → Int32 → Int32 → Option (Int32 × kS)) (hc34 : ∀ (σ : kS) (v1 : Int32) (v2 : Int32) (v3 : Int32) (v4 : Int32), k34 (wr_PM o M σ) o v1 v2 v3 v4 = (c34 σ v1 v2 v3 v4).map (wq_PM o M))  (σ : kS) (v1 : Int32) (v2 : Int32) (v3 : Int32) (v4 : Int32) (s0 : Int32) : jb_PM_spreads_73 N k34 (wr_PM o M σ) o v1 v2 v3 v4 s0 = (kb_PM_spreads_73 N c34 σ v1 v2 v3 v4 s0).map (wq_PM o M) := by
  unfold jb_PM_spreads_73 kb_PM_spreads_73
  first | rw [wg_PM_6, Option.bind_some] | rw [Option.bind_some]
  rw [Option.bind_some]
  try rw [wl_PM_6]
  refine km_bind (fun x82 => ?_)
  refine km_ite (fun _ => ?_) (fun _ => ?_)
  · exact lb_PM_spreads_108 o M N _ _ hc34 _ _ _ _ _ _ _
  · first | rw [wg_PM_7, Option.bind_some] | rw [Option.bind_some]
    first | rw [wg_PM_6, Option.bind_some] | rw [Option.bind_some]
    rw [Option.bind_some]
    try rw [wl_PM_6]
    refine km_bind (fun x98 => ?_)
    rw [Option.bind_some]
    try rw [wl_PM_7]
    refine km_bind (fun x103 => ?_)
    exact lb_PM_spreads_108 o M N _ _ hc34 _ _ _ _ _ _ _
set_option maxHeartbeats 4000000 in
theorem lb_PM_spreads_34 (o : Nat) (M : mv_M) (N : Nat) : ∀ (n : Nat) (σ : kS) (v1 : Int32) (v2 : Int32) (v3 : Int32) (v4 : Int32), jb_PM_spreads_34 N n (wr_PM o M σ) o v1 v2 v3 v4 = (kb_PM_spreads_34 N n σ v1 v2 v3 v4).map (wq_PM o M) := by
  intro n
  induction n with
  | zero => intros; rfl
  | succ n ih =>
    intro σ v1 v2 v3 v4
    rw [jb_PM_spreads_34, kb_PM_spreads_34]
    refine km_ite (fun _ => ?_) (fun _ => ?_)
    · rw [wp_PM_11, Option.bind_some]
      refine km_let ?_
      refine km_ite (fun _ => rfl) (fun _ => rfl)
    · first | rw [wg_PM_6, Option.bind_some] | rw [Option.bind_some]
      rw [Option.bind_some]
      try rw [wl_PM_6]
      refine km_bind (fun x47 => ?_)
      refine km_ite (fun _ => ?_) (fun _ => ?_)
      · exact lb_PM_spreads_73 o M N _ _ ih _ _ _ _ _ _
      · first | rw [wg_PM_7, Option.bind_some] | rw [Option.bind_some]
        first | rw [wg_PM_6, Option.bind_some] | rw [Option.bind_some]
        rw [Option.bind_some]
        try rw [wl_PM_6]
        refine km_bind (fun x63 => ?_)
        rw [Option.bind_some]
        try rw [wl_PM_7]
        refine km_bind (fun x68 => ?_)
        exact lb_PM_spreads_73 o M N _ _ ih _ _ _ _ _ _
set_option maxHeartbeats 4000000 in
theorem lb_PM_spreads_30 (o : Nat) (M : mv_M) (N : Nat)  (σ : kS) (v1 : Int32) (v2 : Int32) (s0 : Int32) : jb_PM_spreads_30 N (wr_PM o M σ) o v1 v2 s0 = (kb_PM_spreads_30 N σ v1 v2 s0).map (wq_PM o M) := by
  unfold jb_PM_spreads_30 kb_PM_spreads_30
  exact lb_PM_spreads_34 o M N N _ _ _ _ _
set_option maxHeartbeats 4000000 in
theorem lb_PM_spreads_0 (o : Nat) (M : mv_M) (N : Nat)  (σ : kS) (v1 : Int32) (v2 : Int32) : jb_PM_spreads_0 N (wr_PM o M σ) o v1 v2 = (kb_PM_spreads_0 N σ v1 v2).map (wq_PM o M) := by
  unfold jb_PM_spreads_0 kb_PM_spreads_0
  first | rw [wg_PM_6, Option.bind_some] | rw [Option.bind_some]
  rw [Option.bind_some]
  try rw [wl_PM_6]
  refine km_bind (fun x5 => ?_)
  first | rw [wg_PM_6, Option.bind_some] | rw [Option.bind_some]
  rw [Option.bind_some]
  try rw [wl_PM_6]
  refine km_bind (fun x11 => ?_)
  refine km_ite (fun _ => ?_) (fun _ => ?_)
  · first | rw [wg_PM_6, Option.bind_some] | rw [Option.bind_some]
    rw [Option.bind_some]
    try rw [wl_PM_6]
    refine km_bind (fun x29 => ?_)
    exact lb_PM_spreads_30 o M N _ _ _ _
  · first | rw [wg_PM_6, Option.bind_some] | rw [Option.bind_some]
    rw [Option.bind_some]
    try rw [wl_PM_6]
    refine km_bind (fun x20 => ?_)
    exact lb_PM_spreads_30 o M N _ _ _ _
theorem lf_PM_spreads (o : Nat) (M : mv_M) (N : Nat) (σ : kS) (v1 : Int32) (v2 : Int32) : jf_PM_spreads N (wr_PM o M σ) o v1 v2 = (kf_PM_spreads N σ v1 v2).map (wq_PM o M) := lb_PM_spreads_0 o M N σ v1 v2
/-! ===== PlainLearnerModel.fits(III)Z ===== -/
def kb_PM_fits_241 (N : Nat) (σ : kS) : Option (Int32 × kS) :=
  if (0 : Int32) = 0 ∨ (0 : Int32) = 1 then some (0, σ) else none
def kb_PM_fits_384 (N : Nat) (σ : kS) : Option (Int32 × kS) :=
  if (1 : Int32) = 0 ∨ (1 : Int32) = 1 then some (1, σ) else none
def kb_PM_fits_326 (N : Nat) (σ : kS) (v1 : Int32) (v2 : Int32) : Option (Int32 × kS) :=
  if v1 = 9 then (Option.bind (mj_tab (σ.2.2.1 7) 150 (((3 * v2) + (σ.1 11)) - 1)) fun x356 =>
  mj_gd ((σ.1 11) - 2) 3 <| kk_let (kA σ 12 ((σ.1 11) - 2).toNatClampNeg x356) fun s357 =>
  Option.bind (mj_tab (s357.2.2.1 7) 150 (((3 * v2) + (s357.1 11)) - 2)) fun x382 =>
  mj_gd ((s357.1 11) - 1) 3 <| kk_let (kA s357 12 ((s357.1 11) - 1).toNatClampNeg x382) fun s383 =>
  kb_PM_fits_384 N s383) else
  kb_PM_fits_384 N σ
def kb_PM_fits_276 (N : Nat) : Nat → kS → Int32 → Int32 → Int32 → Option (Int32 × kS)
  | 0, _, _, _, _ => none
  | n + 1, σ, v1, v2, v4 =>
    if (σ.1 11) ≤ v4 then (if v1 = 14 then (kk_call (kf_PM_cells N σ v2) fun r322 s322 =>
    mj_gd 0 3 <| kk_let (kA s322 12 (0 : Int32).toNatClampNeg r322) fun s325 =>
    kb_PM_fits_326 N s325 v1 v2) else
    kb_PM_fits_326 N σ v1 v2) else
    Option.bind (mj_tab (σ.2.2.1 7) 150 ((3 * v2) + v4)) fun x301 =>
    mj_gd v4 3 <| kk_let (kA σ 12 v4.toNatClampNeg x301) fun s302 =>
    kb_PM_fits_276 N n s302 v1 v2 (v4 + 1)
def kb_PM_fits_270 (N : Nat) (σ : kS) (v1 : Int32) (v2 : Int32) (s1 : Int32) : Option (Int32 × kS) :=
  kk_let (kI σ 11 s1) fun s270 =>
  kb_PM_fits_276 N N s270 v1 v2 0
def kb_PM_fits_243 (N : Nat) (σ : kS) (v1 : Int32) (v2 : Int32) : Option (Int32 × kS) :=
  if v1 = 15 then (kb_PM_fits_270 N σ v1 v2 0) else
  if v1 = 14 then (kb_PM_fits_270 N σ v1 v2 1) else
  Option.bind (mj_tab (σ.2.2.1 6) 50 v2) fun x269 =>
  kb_PM_fits_270 N σ v1 v2 x269
def kb_PM_fits_213 (N : Nat) (c168 : kS → Int32 → Int32 → Int32 → Option (Int32 × kS)) (σ : kS) (v2 : Int32) (v4 : Int32) (v5 : Int32) : Option (Int32 × kS) :=
  c168 σ v2 v4 (v5 + 1)
def kb_PM_fits_168 (N : Nat) : Nat → kS → Int32 → Int32 → Int32 → Option (Int32 × kS)
  | 0, _, _, _, _ => none
  | n + 1, σ, v2, v4, v5 =>
    Option.bind (mj_tab (σ.2.2.1 6) 50 v2) fun x175 =>
    if x175 ≤ v5 then (if (1 : Int32) = 0 ∨ (1 : Int32) = 1 then some (1, σ) else none) else
    if v5 = v4 then (kb_PM_fits_213 N (kb_PM_fits_168 N n) σ v2 v4 v5) else
    kk_let (kI σ 11 ((σ.1 11) + 1)) fun s198 =>
    Option.bind (mj_tab (s198.2.2.1 7) 150 ((3 * v2) + v5)) fun x211 =>
    mj_gd (σ.1 11) 3 <| kk_let (kA s198 12 (σ.1 11).toNatClampNeg x211) fun s212 =>
    kb_PM_fits_213 N (kb_PM_fits_168 N n) s212 v2 v4 v5
def kb_PM_fits_158 (N : Nat) (σ : kS) (v2 : Int32) (s0 : Int32) : Option (Int32 × kS) :=
  kk_let (kI σ 11 0) fun s162 =>
  kb_PM_fits_168 N N s162 v2 s0 0
def kb_PM_fits_147 (N : Nat) (σ : kS) (v1 : Int32) (v2 : Int32) (v3 : Int32) : Option (Int32 × kS) :=
  if v1 = 8 then (kb_PM_fits_158 N σ v2 0) else
  kb_PM_fits_158 N σ v2 v3
def kb_PM_fits_145 (N : Nat) (σ : kS) : Option (Int32 × kS) :=
  if (0 : Int32) = 0 ∨ (0 : Int32) = 1 then some (0, σ) else none
def kb_PM_fits_52 (N : Nat) (σ : kS) : Option (Int32 × kS) :=
  if (0 : Int32) = 0 ∨ (0 : Int32) = 1 then some (0, σ) else none
def kb_PM_fits_0 (N : Nat) (σ : kS) (v1 : Int32) (v2 : Int32) (v3 : Int32) : Option (Int32 × kS) :=
  if 4 ≤ v1 then (if v1 = 4 then (Option.bind (mj_tab (σ.2.2.1 6) 50 v2) fun x22 =>
  if x22 = 2 then (Option.bind (mj_tab (σ.2.2.1 6) 50 v3) fun x32 =>
  if x32 = 2 then (kk_call (kf_PM_sideOf N σ v2 1) fun r40 s40 =>
  kk_call (kf_PM_sideOf N s40 v3 0) fun r46 s46 =>
  if r40 = r46 then (kk_let (kI s46 11 2) fun s56 =>
  kk_call (kf_PM_sideOf N s56 v2 0) fun r67 s67 =>
  mj_gd 0 3 <| kk_let (kA s67 12 (0 : Int32).toNatClampNeg r67) fun s70 =>
  kk_call (kf_PM_sideOf N s70 v3 1) fun r79 s79 =>
  mj_gd 1 3 <| kk_let (kA s79 12 (1 : Int32).toNatClampNeg r79) fun s82 =>
  if (1 : Int32) = 0 ∨ (1 : Int32) = 1 then some (1, s82) else none) else
  kb_PM_fits_52 N s46) else
  kb_PM_fits_52 N σ) else
  kb_PM_fits_52 N σ) else
  if 9 ≤ v1 then (if v3 = 0 then (if v1 = 9 then (Option.bind (mj_tab (σ.2.2.1 6) 50 v2) fun x236 =>
  if 2 ≤ x236 then (kb_PM_fits_243 N σ v1 v2) else
  kb_PM_fits_241 N σ) else
  kb_PM_fits_243 N σ v1 v2) else
  kb_PM_fits_241 N σ) else
  if v1 = 8 then (Option.bind (mj_tab (σ.2.2.1 6) 50 v2) fun x102 =>
  if x102 = 0 then (kb_PM_fits_145 N σ) else
  kk_call (kf_PM_sideOf N σ v2 0) fun r112 s112 =>
  Option.bind (kf_PM_isIn N v3.toInt64 0 ((r112 - 1).toInt64)) fun r118 =>
  if r118 = 0 then (kb_PM_fits_145 N s112) else
  kb_PM_fits_147 N s112 v1 v2 v3) else
  Option.bind (mj_tab (σ.2.2.1 6) 50 v2) fun x135 =>
  Option.bind (kf_PM_isIn N v3.toInt64 0 ((x135 - 1).toInt64)) fun r139 =>
  if r139 = 0 then (kb_PM_fits_145 N σ) else
  kb_PM_fits_147 N σ v1 v2 v3) else
  kk_call (kf_PM_spreads N σ v2 v3) fun r8 s8 =>
  if r8 = 0 ∨ r8 = 1 then some (r8, s8) else none
def kf_PM_fits (N : Nat) (σ : kS) (v1 : Int32) (v2 : Int32) (v3 : Int32) : Option (Int32 × kS) := kb_PM_fits_0 N σ v1 v2 v3
set_option maxHeartbeats 4000000 in
theorem lb_PM_fits_241 (o : Nat) (M : mv_M) (N : Nat)  (σ : kS) : jb_PM_fits_241 N (wr_PM o M σ) = (kb_PM_fits_241 N σ).map (wq_PM o M) := by
  unfold jb_PM_fits_241 kb_PM_fits_241
  refine km_ite (fun _ => rfl) (fun _ => rfl)
set_option maxHeartbeats 4000000 in
theorem lb_PM_fits_384 (o : Nat) (M : mv_M) (N : Nat)  (σ : kS) : jb_PM_fits_384 N (wr_PM o M σ) = (kb_PM_fits_384 N σ).map (wq_PM o M) := by
  unfold jb_PM_fits_384 kb_PM_fits_384
  refine km_ite (fun _ => rfl) (fun _ => rfl)
set_option maxHeartbeats 4000000 in
theorem lb_PM_fits_326 (o : Nat) (M : mv_M) (N : Nat)  (σ : kS) (v1 : Int32) (v2 : Int32) : jb_PM_fits_326 N (wr_PM o M σ) o v1 v2 = (kb_PM_fits_326 N σ v1 v2).map (wq_PM o M) := by
  unfold jb_PM_fits_326 kb_PM_fits_326
  refine km_ite (fun _ => ?_) (fun _ => ?_)
  · first | rw [wg_PM_12, Option.bind_some] | rw [Option.bind_some]
    first | rw [wg_PM_11, Option.bind_some] | rw [Option.bind_some]
    first | rw [wg_PM_7, Option.bind_some] | rw [Option.bind_some]
    first | rw [wg_PM_11, Option.bind_some] | rw [Option.bind_some]
    rw [Option.bind_some]
    try rw [wl_PM_7]
    refine km_bind (fun x356 => ?_)
    rw [Option.bind_some]
    rw [wx_PM_12]
    refine km_gd (fun _ => ?_)
    refine km_let ?_
    first | rw [wg_PM_12, Option.bind_some] | rw [Option.bind_some]
    first | rw [wg_PM_11, Option.bind_some] | rw [Option.bind_some]
    first | rw [wg_PM_7, Option.bind_some] | rw [Option.bind_some]
    first | rw [wg_PM_11, Option.bind_some] | rw [Option.bind_some]
    rw [Option.bind_some]
    try rw [wl_PM_7]
    refine km_bind (fun x382 => ?_)
    rw [Option.bind_some]
    rw [wx_PM_12]
    refine km_gd (fun _ => ?_)
    refine km_let ?_
    exact lb_PM_fits_384 o M N _
  · exact lb_PM_fits_384 o M N _
set_option maxHeartbeats 4000000 in
theorem lb_PM_fits_276 (o : Nat) (M : mv_M) (N : Nat) : ∀ (n : Nat) (σ : kS) (v1 : Int32) (v2 : Int32) (v4 : Int32), jb_PM_fits_276 N n (wr_PM o M σ) o v1 v2 v4 = (kb_PM_fits_276 N n σ v1 v2 v4).map (wq_PM o M) := by
  intro n
  induction n with
  | zero => intros; rfl
  | succ n ih =>
    intro σ v1 v2 v4
    rw [jb_PM_fits_276, kb_PM_fits_276]
    first | rw [wg_PM_11, Option.bind_some] | rw [Option.bind_some]
    refine km_ite (fun _ => ?_) (fun _ => ?_)
    · refine km_ite (fun _ => ?_) (fun _ => ?_)
      · first | rw [wg_PM_12, Option.bind_some] | rw [Option.bind_some]
        try rw [wo_PM]
        try rw [lf_PM_cells]
        refine km_call (fun r322 s322 => ?_)
        rw [Option.bind_some]
        rw [wx_PM_12]
        refine km_gd (fun _ => ?_)
        refine km_let ?_
        skip
        exact lb_PM_fits_326 o M N _ _ _
      · exact lb_PM_fits_326 o M N _ _ _
    · first | rw [wg_PM_12, Option.bind_some] | rw [Option.bind_some]
      first | rw [wg_PM_7, Option.bind_some] | rw [Option.bind_some]
      rw [Option.bind_some]
      try rw [wl_PM_7]
      refine km_bind (fun x301 => ?_)
      rw [Option.bind_some]
      rw [wx_PM_12]
      refine km_gd (fun _ => ?_)
      refine km_let ?_
      skip
      exact ih _ _ _ _
set_option maxHeartbeats 4000000 in
theorem lb_PM_fits_270 (o : Nat) (M : mv_M) (N : Nat)  (σ : kS) (v1 : Int32) (v2 : Int32) (s1 : Int32) : jb_PM_fits_270 N (wr_PM o M σ) o v1 v2 o s1 = (kb_PM_fits_270 N σ v1 v2 s1).map (wq_PM o M) := by
  unfold jb_PM_fits_270 kb_PM_fits_270
  rw [wp_PM_11, Option.bind_some]
  refine km_let ?_
  exact lb_PM_fits_276 o M N N _ _ _ _
set_option maxHeartbeats 4000000 in
theorem lb_PM_fits_243 (o : Nat) (M : mv_M) (N : Nat)  (σ : kS) (v1 : Int32) (v2 : Int32) : jb_PM_fits_243 N (wr_PM o M σ) o v1 v2 = (kb_PM_fits_243 N σ v1 v2).map (wq_PM o M) := by
  unfold jb_PM_fits_243 kb_PM_fits_243
  refine km_ite (fun _ => ?_) (fun _ => ?_)
  · exact lb_PM_fits_270 o M N _ _ _ _
  · refine km_ite (fun _ => ?_) (fun _ => ?_)
    · exact lb_PM_fits_270 o M N _ _ _ _
    · first | rw [wg_PM_6, Option.bind_some] | rw [Option.bind_some]
      rw [Option.bind_some]
      try rw [wl_PM_6]
      refine km_bind (fun x269 => ?_)
      exact lb_PM_fits_270 o M N _ _ _ _
set_option maxHeartbeats 4000000 in
theorem lb_PM_fits_213 (o : Nat) (M : mv_M) (N : Nat) (k168 : mv_M → Nat → Int32 → Int32 → Int32 → Option (Int32 × mv_M)) (c168 : kS → Int32 → Int32 → Int32 → Option (Int32 × kS)) (hc168 : ∀ (σ : kS) (v2 : Int32) (v4 : Int32) (v5 : Int32), k168 (wr_PM o M σ) o v2 v4 v5 = (c168 σ v2 v4 v5).map (wq_PM o M))  (σ : kS) (v2 : Int32) (v4 : Int32) (v5 : Int32) : jb_PM_fits_213 N k168 (wr_PM o M σ) o v2 v4 v5 = (kb_PM_fits_213 N c168 σ v2 v4 v5).map (wq_PM o M) := by
  unfold jb_PM_fits_213 kb_PM_fits_213
  exact hc168 _ _ _ _
set_option maxHeartbeats 4000000 in
theorem lb_PM_fits_168 (o : Nat) (M : mv_M) (N : Nat) : ∀ (n : Nat) (σ : kS) (v2 : Int32) (v4 : Int32) (v5 : Int32), jb_PM_fits_168 N n (wr_PM o M σ) o v2 v4 v5 = (kb_PM_fits_168 N n σ v2 v4 v5).map (wq_PM o M) := by
  intro n
  induction n with
  | zero => intros; rfl
  | succ n ih =>
    intro σ v2 v4 v5
    rw [jb_PM_fits_168, kb_PM_fits_168]
    first | rw [wg_PM_6, Option.bind_some] | rw [Option.bind_some]
    rw [Option.bind_some]
    try rw [wl_PM_6]
    refine km_bind (fun x175 => ?_)
    refine km_ite (fun _ => ?_) (fun _ => ?_)
    · refine km_ite (fun _ => rfl) (fun _ => rfl)
    · refine km_ite (fun _ => ?_) (fun _ => ?_)
      · exact lb_PM_fits_213 o M N _ _ ih _ _ _ _
      · first | rw [wg_PM_12, Option.bind_some] | rw [Option.bind_some]
        first | rw [wg_PM_11, Option.bind_some] | rw [Option.bind_some]
        rw [wp_PM_11, Option.bind_some]
        refine km_let ?_
        first | rw [wg_PM_7, Option.bind_some] | rw [Option.bind_some]
        rw [Option.bind_some]
        try rw [wl_PM_7]
        refine km_bind (fun x211 => ?_)
        rw [Option.bind_some]
        rw [wx_PM_12]
        refine km_gd (fun _ => ?_)
        refine km_let ?_
        skip
        exact lb_PM_fits_213 o M N _ _ ih _ _ _ _
set_option maxHeartbeats 4000000 in
theorem lb_PM_fits_158 (o : Nat) (M : mv_M) (N : Nat)  (σ : kS) (v2 : Int32) (s0 : Int32) : jb_PM_fits_158 N (wr_PM o M σ) o v2 s0 = (kb_PM_fits_158 N σ v2 s0).map (wq_PM o M) := by
  unfold jb_PM_fits_158 kb_PM_fits_158
  rw [wp_PM_11, Option.bind_some]
  refine km_let ?_
  exact lb_PM_fits_168 o M N N _ _ _ _
set_option maxHeartbeats 4000000 in
theorem lb_PM_fits_147 (o : Nat) (M : mv_M) (N : Nat)  (σ : kS) (v1 : Int32) (v2 : Int32) (v3 : Int32) : jb_PM_fits_147 N (wr_PM o M σ) o v1 v2 v3 = (kb_PM_fits_147 N σ v1 v2 v3).map (wq_PM o M) := by
  unfold jb_PM_fits_147 kb_PM_fits_147
  refine km_ite (fun _ => ?_) (fun _ => ?_)
  · exact lb_PM_fits_158 o M N _ _ _
  · exact lb_PM_fits_158 o M N _ _ _
set_option maxHeartbeats 4000000 in
theorem lb_PM_fits_145 (o : Nat) (M : mv_M) (N : Nat)  (σ : kS) : jb_PM_fits_145 N (wr_PM o M σ) = (kb_PM_fits_145 N σ).map (wq_PM o M) := by
  unfold jb_PM_fits_145 kb_PM_fits_145
  refine km_ite (fun _ => rfl) (fun _ => rfl)
set_option maxHeartbeats 4000000 in
theorem lb_PM_fits_52 (o : Nat) (M : mv_M) (N : Nat)  (σ : kS) : jb_PM_fits_52 N (wr_PM o M σ) = (kb_PM_fits_52 N σ).map (wq_PM o M) := by
  unfold jb_PM_fits_52 kb_PM_fits_52
  refine km_ite (fun _ => rfl) (fun _ => rfl)
set_option maxHeartbeats 4000000 in
theorem lb_PM_fits_0 (o : Nat) (M : mv_M) (N : Nat)  (σ : kS) (v1 : Int32) (v2 : Int32) (v3 : Int32) : jb_PM_fits_0 N (wr_PM o M σ) o v1 v2 v3 = (kb_PM_fits_0 N σ v1 v2 v3).map (wq_PM o M) := by
  unfold jb_PM_fits_0 kb_PM_fits_0
  refine km_ite (fun _ => ?_) (fun _ => ?_)
  · refine km_ite (fun _ => ?_) (fun _ => ?_)
    · first | rw [wg_PM_6, Option.bind_some] | rw [Option.bind_some]
      rw [Option.bind_some]
      try rw [wl_PM_6]
      refine km_bind (fun x22 => ?_)
      refine km_ite (fun _ => ?_) (fun _ => ?_)
      · first | rw [wg_PM_6, Option.bind_some] | rw [Option.bind_some]
        rw [Option.bind_some]
        try rw [wl_PM_6]
        refine km_bind (fun x32 => ?_)
        refine km_ite (fun _ => ?_) (fun _ => ?_)
        · try rw [wo_PM]
          try rw [lf_PM_sideOf]
          refine km_call (fun r40 s40 => ?_)
          try rw [wo_PM]
          try rw [lf_PM_sideOf]
          refine km_call (fun r46 s46 => ?_)
          refine km_ite (fun _ => ?_) (fun _ => ?_)
          · rw [wp_PM_11, Option.bind_some]
            refine km_let ?_
            first | rw [wg_PM_12, Option.bind_some] | rw [Option.bind_some]
            try rw [wo_PM]
            try rw [lf_PM_sideOf]
            refine km_call (fun r67 s67 => ?_)
            rw [Option.bind_some]
            rw [wx_PM_12]
            refine km_gd (fun _ => ?_)
            refine km_let ?_
            skip
            first | rw [wg_PM_12, Option.bind_some] | rw [Option.bind_some]
            try rw [wo_PM]
            try rw [lf_PM_sideOf]
            refine km_call (fun r79 s79 => ?_)
            rw [Option.bind_some]
            rw [wx_PM_12]
            refine km_gd (fun _ => ?_)
            refine km_let ?_
            skip
            refine km_ite (fun _ => rfl) (fun _ => rfl)
          · exact lb_PM_fits_52 o M N _
        · exact lb_PM_fits_52 o M N _
      · exact lb_PM_fits_52 o M N _
    · refine km_ite (fun _ => ?_) (fun _ => ?_)
      · refine km_ite (fun _ => ?_) (fun _ => ?_)
        · refine km_ite (fun _ => ?_) (fun _ => ?_)
          · first | rw [wg_PM_6, Option.bind_some] | rw [Option.bind_some]
            rw [Option.bind_some]
            try rw [wl_PM_6]
            refine km_bind (fun x236 => ?_)
            refine km_ite (fun _ => ?_) (fun _ => ?_)
            · exact lb_PM_fits_243 o M N _ _ _
            · exact lb_PM_fits_241 o M N _
          · exact lb_PM_fits_243 o M N _ _ _
        · exact lb_PM_fits_241 o M N _
      · refine km_ite (fun _ => ?_) (fun _ => ?_)
        · first | rw [wg_PM_6, Option.bind_some] | rw [Option.bind_some]
          rw [Option.bind_some]
          try rw [wl_PM_6]
          refine km_bind (fun x102 => ?_)
          refine km_ite (fun _ => ?_) (fun _ => ?_)
          · exact lb_PM_fits_145 o M N _
          · try rw [wo_PM]
            try rw [lf_PM_sideOf]
            refine km_call (fun r112 s112 => ?_)
            try rw [lf_PM_isIn]
            refine km_callP (fun r118 => ?_)
            refine km_ite (fun _ => ?_) (fun _ => ?_)
            · exact lb_PM_fits_145 o M N _
            · exact lb_PM_fits_147 o M N _ _ _ _
        · first | rw [wg_PM_6, Option.bind_some] | rw [Option.bind_some]
          rw [Option.bind_some]
          try rw [wl_PM_6]
          refine km_bind (fun x135 => ?_)
          try rw [lf_PM_isIn]
          refine km_callP (fun r139 => ?_)
          refine km_ite (fun _ => ?_) (fun _ => ?_)
          · exact lb_PM_fits_145 o M N _
          · exact lb_PM_fits_147 o M N _ _ _ _
  · try rw [wo_PM]
    try rw [lf_PM_spreads]
    refine km_call (fun r8 s8 => ?_)
    refine km_ite (fun _ => rfl) (fun _ => rfl)
theorem lf_PM_fits (o : Nat) (M : mv_M) (N : Nat) (σ : kS) (v1 : Int32) (v2 : Int32) (v3 : Int32) : jf_PM_fits N (wr_PM o M σ) o v1 v2 v3 = (kf_PM_fits N σ v1 v2 v3).map (wq_PM o M) := lb_PM_fits_0 o M N σ v1 v2 v3
