/-! ===== PlainLearnerModel.reckon(I)V ===== -/
def kb_PM_reckon_81 (N : Nat) (c2 : kS → Int32 → Int32 → Option (Unit × kS)) (σ : kS) (v1 : Int32) (v2 : Int32) : Option (Unit × kS) :=
  c2 σ v1 (v2 + 1)
def kb_PM_reckon_30 (N : Nat) (c2 : kS → Int32 → Int32 → Option (Unit × kS)) : Nat → kS → Int32 → Int32 → Int32 → Int32 → Option (Unit × kS)
  | 0, _, _, _, _, _ => none
  | n + 1, σ, v1, v2, v3, v4 =>
    if v3 ≤ v4 then (kb_PM_reckon_81 N c2 σ v1 v2) else
    kk_call (kf_PM_cell N σ v2 v4) fun r40 s40 =>
    mj_gd ((64 * v2) + v4) 3200 <| kk_let (kB s40 9 ((64 * v2) + v4).toNatClampNeg (s40.2.1 0)) fun s58 =>
    mj_gd ((64 * v2) + v4) 3200 <| kk_let (kB s58 10 ((64 * v2) + v4).toNatClampNeg (s58.2.1 1)) fun s74 =>
    kb_PM_reckon_30 N c2 n s74 v1 v2 v3 (v4 + 1)
def kb_PM_reckon_2 (N : Nat) : Nat → kS → Int32 → Int32 → Option (Unit × kS)
  | 0, _, _, _ => none
  | n + 1, σ, v1, v2 =>
    if v1 < v2 then (some ((), σ)) else
    Option.bind (mj_tab (σ.2.2.1 3) 50 v2) fun x12 =>
    if x12 = (-2) then (kb_PM_reckon_81 N (kb_PM_reckon_2 N n) σ v1 v2) else
    kk_call (kf_PM_cells N σ v2) fun r23 s23 =>
    kb_PM_reckon_30 N (kb_PM_reckon_2 N n) N s23 v1 v2 r23 0
def kb_PM_reckon_0 (N : Nat) (σ : kS) (v1 : Int32) : Option (Unit × kS) :=
  kb_PM_reckon_2 N N σ v1 0
def kf_PM_reckon (N : Nat) (σ : kS) (v1 : Int32) : Option (Unit × kS) := kb_PM_reckon_0 N σ v1
set_option maxHeartbeats 4000000 in
theorem lb_PM_reckon_81 (o : Nat) (M : mv_M) (N : Nat) (k2 : mv_M → Nat → Int32 → Int32 → Option (Unit × mv_M)) (c2 : kS → Int32 → Int32 → Option (Unit × kS)) (hc2 : ∀ (σ : kS) (v1 : Int32) (v2 : Int32), k2 (wr_PM o M σ) o v1 v2 = (c2 σ v1 v2).map (wq_PM o M))  (σ : kS) (v1 : Int32) (v2 : Int32) : jb_PM_reckon_81 N k2 (wr_PM o M σ) o v1 v2 = (kb_PM_reckon_81 N c2 σ v1 v2).map (wq_PM o M) := by
  unfold jb_PM_reckon_81 kb_PM_reckon_81
  exact hc2 _ _ _
set_option maxHeartbeats 4000000 in
theorem lb_PM_reckon_30 (o : Nat) (M : mv_M) (N : Nat) (k2 : mv_M → Nat → Int32 → Int32 → Option (Unit × mv_M)) (c2 : kS → Int32 → Int32 → Option (Unit × kS)) (hc2 : ∀ (σ : kS) (v1 : Int32) (v2 : Int32), k2 (wr_PM o M σ) o v1 v2 = (c2 σ v1 v2).map (wq_PM o M)) : ∀ (n : Nat) (σ : kS) (v1 : Int32) (v2 : Int32) (v3 : Int32) (v4 : Int32), jb_PM_reckon_30 N k2 n (wr_PM o M σ) o v1 v2 v3 v4 = (kb_PM_reckon_30 N c2 n σ v1 v2 v3 v4).map (wq_PM o M) := by
  intro n
  induction n with
  | zero => intros; rfl
  | succ n ih =>
    intro σ v1 v2 v3 v4
    rw [jb_PM_reckon_30, kb_PM_reckon_30]
    refine km_ite (fun _ => ?_) (fun _ => ?_)
    · exact lb_PM_reckon_81 o M N _ _ hc2 _ _ _
    · try rw [wo_PM]
      try rw [lf_PM_cell]
      refine km_call (fun r40 s40 => ?_)
      first | rw [wg_PM_9, Option.bind_some] | rw [Option.bind_some]
      first | rw [wg_PM_0, Option.bind_some] | rw [Option.bind_some]
      rw [Option.bind_some]
      rw [wx_PM_9]
      refine km_gd (fun _ => ?_)
      refine km_let ?_
      skip
      first | rw [wg_PM_10, Option.bind_some] | rw [Option.bind_some]
      first | rw [wg_PM_1, Option.bind_some] | rw [Option.bind_some]
      rw [Option.bind_some]
      rw [wx_PM_10]
      refine km_gd (fun _ => ?_)
      refine km_let ?_
      skip
      exact ih _ _ _ _ _
set_option maxHeartbeats 4000000 in
theorem lb_PM_reckon_2 (o : Nat) (M : mv_M) (N : Nat) : ∀ (n : Nat) (σ : kS) (v1 : Int32) (v2 : Int32), jb_PM_reckon_2 N n (wr_PM o M σ) o v1 v2 = (kb_PM_reckon_2 N n σ v1 v2).map (wq_PM o M) := by
  intro n
  induction n with
  | zero => intros; rfl
  | succ n ih =>
    intro σ v1 v2
    rw [jb_PM_reckon_2, kb_PM_reckon_2]
    refine km_ite (fun _ => ?_) (fun _ => ?_)
    · rfl
    · first | rw [wg_PM_3, Option.bind_some] | rw [Option.bind_some]
      rw [Option.bind_some]
      try rw [wl_PM_3]
      refine km_bind (fun x12 => ?_)
      refine km_ite (fun _ => ?_) (fun _ => ?_)
      · exact lb_PM_reckon_81 o M N _ _ ih _ _ _
      · try rw [wo_PM]
        try rw [lf_PM_cells]
        refine km_call (fun r23 s23 => ?_)
        exact lb_PM_reckon_30 o M N _ _ ih N _ _ _ _ _
set_option maxHeartbeats 4000000 in
theorem lb_PM_reckon_0 (o : Nat) (M : mv_M) (N : Nat)  (σ : kS) (v1 : Int32) : jb_PM_reckon_0 N (wr_PM o M σ) o v1 = (kb_PM_reckon_0 N σ v1).map (wq_PM o M) := by
  unfold jb_PM_reckon_0 kb_PM_reckon_0
  exact lb_PM_reckon_2 o M N N _ _ _
theorem lf_PM_reckon (o : Nat) (M : mv_M) (N : Nat) (σ : kS) (v1 : Int32) : jf_PM_reckon N (wr_PM o M σ) o v1 = (kf_PM_reckon N σ v1).map (wq_PM o M) := lb_PM_reckon_0 o M N σ v1
/-! ===== PlainLearnerModel.value(III)J ===== -/
def kb_PM_value_35 (N : Nat) (σ : kS) : Option (Int64 × kS) :=
  some ((-1099511627776), σ)
def kb_PM_value_0 (N : Nat) (σ : kS) (v1 : Int32) (v2 : Int32) (v3 : Int32) : Option (Int64 × kS) :=
  kk_call (kf_PM_isNode N σ v1) fun r2 s2 =>
  if r2 = 0 then (kb_PM_value_35 N s2) else
  kk_call (kf_PM_cells N s2 v1) fun r13 s13 =>
  Option.bind (kf_PM_isIn N v2.toInt64 0 ((r13 - 1).toInt64)) fun r19 =>
  if r19 = 0 then (kb_PM_value_35 N s13) else
  Option.bind (kf_PM_isIn N v3.toInt64 0 1) fun r29 =>
  if r29 = 0 then (kb_PM_value_35 N s13) else
  kk_call (kf_PM_reckon N s13 v1) fun r41 s41 =>
  kk_call (kf_PM_load N s41 ((64 * v1) + v2)) fun r51 s51 =>
  kk_call (kf_PM_told N s51 v3) fun r56 s56 =>
  some (r56, s56)
def kf_PM_value (N : Nat) (σ : kS) (v1 : Int32) (v2 : Int32) (v3 : Int32) : Option (Int64 × kS) := kb_PM_value_0 N σ v1 v2 v3
set_option maxHeartbeats 4000000 in
theorem lb_PM_value_35 (o : Nat) (M : mv_M) (N : Nat)  (σ : kS) : jb_PM_value_35 N (wr_PM o M σ) = (kb_PM_value_35 N σ).map (wq_PM o M) := by
  unfold jb_PM_value_35 kb_PM_value_35
  rfl
set_option maxHeartbeats 4000000 in
theorem lb_PM_value_0 (o : Nat) (M : mv_M) (N : Nat)  (σ : kS) (v1 : Int32) (v2 : Int32) (v3 : Int32) : jb_PM_value_0 N (wr_PM o M σ) o v1 v2 v3 = (kb_PM_value_0 N σ v1 v2 v3).map (wq_PM o M) := by
  unfold jb_PM_value_0 kb_PM_value_0
  try rw [wo_PM]
  try rw [lf_PM_isNode]
  refine km_call (fun r2 s2 => ?_)
  refine km_ite (fun _ => ?_) (fun _ => ?_)
  · exact lb_PM_value_35 o M N _
  · try rw [wo_PM]
    try rw [lf_PM_cells]
    refine km_call (fun r13 s13 => ?_)
    try rw [lf_PM_isIn]
    refine km_callP (fun r19 => ?_)
    refine km_ite (fun _ => ?_) (fun _ => ?_)
    · exact lb_PM_value_35 o M N _
    · try rw [lf_PM_isIn]
      refine km_callP (fun r29 => ?_)
      refine km_ite (fun _ => ?_) (fun _ => ?_)
      · exact lb_PM_value_35 o M N _
      · try rw [wo_PM]
        try rw [lf_PM_reckon]
        refine km_call (fun r41 s41 => ?_)
        try rw [wo_PM]
        try rw [lf_PM_load]
        refine km_call (fun r51 s51 => ?_)
        try rw [wo_PM]
        try rw [lf_PM_told]
        refine km_call (fun r56 s56 => ?_)
        rfl
theorem lf_PM_value (o : Nat) (M : mv_M) (N : Nat) (σ : kS) (v1 : Int32) (v2 : Int32) (v3 : Int32) : jf_PM_value N (wr_PM o M σ) o v1 v2 v3 = (kf_PM_value N σ v1 v2 v3).map (wq_PM o M) := lb_PM_value_0 o M N σ v1 v2 v3
/-! ===== PlainLearnerModel.gives(I)V ===== -/
def kb_PM_gives_0 (N : Nat) (σ : kS) (v1 : Int32) : Option (Unit × kS) :=
  kk_call (kf_PM_times N σ (σ.2.1 15) (σ.2.1 16) (σ.2.1 0) (σ.2.1 1)) fun r17 s17 =>
  Option.bind (mj_tabL (s17.2.2.2 13) 3200 v1) fun x26 =>
  Option.bind (mj_tabL (s17.2.2.2 14) 3200 v1) fun x32 =>
  kk_call (kf_PM_plus N s17 x26 x32 (s17.2.1 0) (s17.2.1 1)) fun r41 s41 =>
  mj_gd v1 3200 <| kk_let (kB s41 13 v1.toNatClampNeg (s41.2.1 0)) fun s53 =>
  mj_gd v1 3200 <| kk_let (kB s53 14 v1.toNatClampNeg (s53.2.1 1)) fun s63 =>
  some ((), s63)
def kf_PM_gives (N : Nat) (σ : kS) (v1 : Int32) : Option (Unit × kS) := kb_PM_gives_0 N σ v1
set_option maxHeartbeats 4000000 in
theorem lb_PM_gives_0 (o : Nat) (M : mv_M) (N : Nat)  (σ : kS) (v1 : Int32) : jb_PM_gives_0 N (wr_PM o M σ) o v1 = (kb_PM_gives_0 N σ v1).map (wq_PM o M) := by
  unfold jb_PM_gives_0 kb_PM_gives_0
  first | rw [wg_PM_15, Option.bind_some] | rw [Option.bind_some]
  first | rw [wg_PM_16, Option.bind_some] | rw [Option.bind_some]
  first | rw [wg_PM_0, Option.bind_some] | rw [Option.bind_some]
  first | rw [wg_PM_1, Option.bind_some] | rw [Option.bind_some]
  try rw [wo_PM]
  try rw [lf_PM_times]
  refine km_call (fun r17 s17 => ?_)
  first | rw [wg_PM_13, Option.bind_some] | rw [Option.bind_some]
  rw [Option.bind_some]
  try rw [wl_PM_13]
  refine km_bind (fun x26 => ?_)
  first | rw [wg_PM_14, Option.bind_some] | rw [Option.bind_some]
  rw [Option.bind_some]
  try rw [wl_PM_14]
  refine km_bind (fun x32 => ?_)
  first | rw [wg_PM_0, Option.bind_some] | rw [Option.bind_some]
  first | rw [wg_PM_1, Option.bind_some] | rw [Option.bind_some]
  try rw [wo_PM]
  try rw [lf_PM_plus]
  refine km_call (fun r41 s41 => ?_)
  first | rw [wg_PM_13, Option.bind_some] | rw [Option.bind_some]
  first | rw [wg_PM_0, Option.bind_some] | rw [Option.bind_some]
  rw [Option.bind_some]
  rw [wx_PM_13]
  refine km_gd (fun _ => ?_)
  refine km_let ?_
  first | rw [wg_PM_14, Option.bind_some] | rw [Option.bind_some]
  first | rw [wg_PM_1, Option.bind_some] | rw [Option.bind_some]
  rw [Option.bind_some]
  rw [wx_PM_14]
  refine km_gd (fun _ => ?_)
  refine km_let ?_
  rfl
theorem lf_PM_gives (o : Nat) (M : mv_M) (N : Nat) (σ : kS) (v1 : Int32) : jf_PM_gives N (wr_PM o M σ) o v1 = (kf_PM_gives N σ v1).map (wq_PM o M) := lb_PM_gives_0 o M N σ v1
/-! ===== PlainLearnerModel.giveTwo(II)V ===== -/
def kb_PM_giveTwo_207 (N : Nat) (σ : kS) (v4 : Int32) : Option (Unit × kS) :=
  kk_call (kf_PM_gives N σ v4) fun r210 s210 =>
  some ((), s210)
def kb_PM_giveTwo_129 (N : Nat) (σ : kS) (v4 : Int32) (s1 : Int64) : Option (Unit × kS) :=
  kk_call (kf_PM_least N σ s1 1) fun r130 s130 =>
  kb_PM_giveTwo_207 N s130 v4
def kb_PM_giveTwo_105 (N : Nat) (σ : kS) (v3 : Int32) (v4 : Int32) (v5 : Int32) : Option (Unit × kS) :=
  kk_call (kf_PM_gives N σ v3) fun r107 s107 =>
  if 2 ≤ v5 then (if v5 = 2 then (kk_call (kf_PM_load N s107 v3) fun r144 s144 =>
  kb_PM_giveTwo_207 N s144 v4) else
  Option.bind (mj_tabL (s107.2.2.2 9) 3200 v3) fun x156 =>
  Option.bind (mj_tabL (s107.2.2.2 10) 3200 v3) fun x162 =>
  Option.bind (mj_tabL (s107.2.2.2 9) 3200 v4) fun x169 =>
  Option.bind (mj_tabL (s107.2.2.2 10) 3200 v4) fun x176 =>
  kk_call (kf_PM_over N s107 x156 x162 x169 x176) fun r177 s177 =>
  Option.bind (mj_tabL (s177.2.2.2 9) 3200 v4) fun x196 =>
  Option.bind (mj_tabL (s177.2.2.2 10) 3200 v4) fun x203 =>
  kk_call (kf_PM_over N s177 (-(s177.2.1 0)) (s177.2.1 1) x196 x203) fun r204 s204 =>
  kb_PM_giveTwo_207 N s204 v4) else
  if v5 = 0 then (kb_PM_giveTwo_129 N s107 v4 1) else
  kb_PM_giveTwo_129 N s107 v4 (-1)
def kb_PM_giveTwo_0 (N : Nat) (σ : kS) (v1 : Int32) (v2 : Int32) : Option (Unit × kS) :=
  Option.bind (mj_tab (σ.2.2.1 4) 50 v1) fun x7 =>
  Option.bind (mj_tab (σ.2.2.1 4) 50 v1) fun x17 =>
  kk_call (kf_PM_spreadCell N σ v1 v2 x17) fun r18 s18 =>
  Option.bind (mj_tab (s18.2.2.1 5) 50 v1) fun x30 =>
  Option.bind (mj_tab (s18.2.2.1 5) 50 v1) fun x40 =>
  kk_call (kf_PM_spreadCell N s18 v1 v2 x40) fun r41 s41 =>
  Option.bind (mj_tab (s41.2.2.1 3) 50 v1) fun x52 =>
  if 2 ≤ x52 then (if x52 = 2 then (kk_call (kf_PM_load N s41 ((64 * x30) + r41)) fun r79 s79 =>
  kb_PM_giveTwo_105 N s79 ((64 * x7) + r18) ((64 * x30) + r41) x52) else
  Option.bind (mj_tabL (s41.2.2.2 9) 3200 ((64 * x30) + r41)) fun x94 =>
  Option.bind (mj_tabL (s41.2.2.2 10) 3200 ((64 * x30) + r41)) fun x101 =>
  kk_call (kf_PM_over N s41 1 1 x94 x101) fun r102 s102 =>
  kb_PM_giveTwo_105 N s102 ((64 * x7) + r18) ((64 * x30) + r41) x52) else
  kk_call (kf_PM_least N s41 1 1) fun r64 s64 =>
  kb_PM_giveTwo_105 N s64 ((64 * x7) + r18) ((64 * x30) + r41) x52
def kf_PM_giveTwo (N : Nat) (σ : kS) (v1 : Int32) (v2 : Int32) : Option (Unit × kS) := kb_PM_giveTwo_0 N σ v1 v2
set_option maxHeartbeats 4000000 in
theorem lb_PM_giveTwo_207 (o : Nat) (M : mv_M) (N : Nat)  (σ : kS) (v4 : Int32) : jb_PM_giveTwo_207 N (wr_PM o M σ) o v4 = (kb_PM_giveTwo_207 N σ v4).map (wq_PM o M) := by
  unfold jb_PM_giveTwo_207 kb_PM_giveTwo_207
  try rw [wo_PM]
  try rw [lf_PM_gives]
  refine km_call (fun r210 s210 => ?_)
  rfl
set_option maxHeartbeats 4000000 in
theorem lb_PM_giveTwo_129 (o : Nat) (M : mv_M) (N : Nat)  (σ : kS) (v4 : Int32) (s1 : Int64) : jb_PM_giveTwo_129 N (wr_PM o M σ) o v4 o s1 = (kb_PM_giveTwo_129 N σ v4 s1).map (wq_PM o M) := by
  unfold jb_PM_giveTwo_129 kb_PM_giveTwo_129
  try rw [wo_PM]
  try rw [lf_PM_least]
  refine km_call (fun r130 s130 => ?_)
  exact lb_PM_giveTwo_207 o M N _ _
set_option maxHeartbeats 4000000 in
theorem lb_PM_giveTwo_105 (o : Nat) (M : mv_M) (N : Nat)  (σ : kS) (v3 : Int32) (v4 : Int32) (v5 : Int32) : jb_PM_giveTwo_105 N (wr_PM o M σ) o v3 v4 v5 = (kb_PM_giveTwo_105 N σ v3 v4 v5).map (wq_PM o M) := by
  unfold jb_PM_giveTwo_105 kb_PM_giveTwo_105
  try rw [wo_PM]
  try rw [lf_PM_gives]
  refine km_call (fun r107 s107 => ?_)
  refine km_ite (fun _ => ?_) (fun _ => ?_)
  · refine km_ite (fun _ => ?_) (fun _ => ?_)
    · try rw [wo_PM]
      try rw [lf_PM_load]
      refine km_call (fun r144 s144 => ?_)
      exact lb_PM_giveTwo_207 o M N _ _
    · first | rw [wg_PM_9, Option.bind_some] | rw [Option.bind_some]
      rw [Option.bind_some]
      try rw [wl_PM_9]
      refine km_bind (fun x156 => ?_)
      first | rw [wg_PM_10, Option.bind_some] | rw [Option.bind_some]
      rw [Option.bind_some]
      try rw [wl_PM_10]
      refine km_bind (fun x162 => ?_)
      first | rw [wg_PM_9, Option.bind_some] | rw [Option.bind_some]
      rw [Option.bind_some]
      try rw [wl_PM_9]
      refine km_bind (fun x169 => ?_)
      first | rw [wg_PM_10, Option.bind_some] | rw [Option.bind_some]
      rw [Option.bind_some]
      try rw [wl_PM_10]
      refine km_bind (fun x176 => ?_)
      try rw [wo_PM]
      try rw [lf_PM_over]
      refine km_call (fun r177 s177 => ?_)
      first | rw [wg_PM_0, Option.bind_some] | rw [Option.bind_some]
      first | rw [wg_PM_1, Option.bind_some] | rw [Option.bind_some]
      first | rw [wg_PM_9, Option.bind_some] | rw [Option.bind_some]
      rw [Option.bind_some]
      try rw [wl_PM_9]
      refine km_bind (fun x196 => ?_)
      first | rw [wg_PM_10, Option.bind_some] | rw [Option.bind_some]
      rw [Option.bind_some]
      try rw [wl_PM_10]
      refine km_bind (fun x203 => ?_)
      try rw [wo_PM]
      try rw [lf_PM_over]
      refine km_call (fun r204 s204 => ?_)
      exact lb_PM_giveTwo_207 o M N _ _
  · refine km_ite (fun _ => ?_) (fun _ => ?_)
    · exact lb_PM_giveTwo_129 o M N _ _ _
    · exact lb_PM_giveTwo_129 o M N _ _ _
set_option maxHeartbeats 4000000 in
theorem lb_PM_giveTwo_0 (o : Nat) (M : mv_M) (N : Nat)  (σ : kS) (v1 : Int32) (v2 : Int32) : jb_PM_giveTwo_0 N (wr_PM o M σ) o v1 v2 = (kb_PM_giveTwo_0 N σ v1 v2).map (wq_PM o M) := by
  unfold jb_PM_giveTwo_0 kb_PM_giveTwo_0
  first | rw [wg_PM_4, Option.bind_some] | rw [Option.bind_some]
  rw [Option.bind_some]
  try rw [wl_PM_4]
  refine km_bind (fun x7 => ?_)
  first | rw [wg_PM_4, Option.bind_some] | rw [Option.bind_some]
  rw [Option.bind_some]
  try rw [wl_PM_4]
  refine km_bind (fun x17 => ?_)
  try rw [wo_PM]
  try rw [lf_PM_spreadCell]
  refine km_call (fun r18 s18 => ?_)
  first | rw [wg_PM_5, Option.bind_some] | rw [Option.bind_some]
  rw [Option.bind_some]
  try rw [wl_PM_5]
  refine km_bind (fun x30 => ?_)
  first | rw [wg_PM_5, Option.bind_some] | rw [Option.bind_some]
  rw [Option.bind_some]
  try rw [wl_PM_5]
  refine km_bind (fun x40 => ?_)
  try rw [wo_PM]
  try rw [lf_PM_spreadCell]
  refine km_call (fun r41 s41 => ?_)
  first | rw [wg_PM_3, Option.bind_some] | rw [Option.bind_some]
  rw [Option.bind_some]
  try rw [wl_PM_3]
  refine km_bind (fun x52 => ?_)
  refine km_ite (fun _ => ?_) (fun _ => ?_)
  · refine km_ite (fun _ => ?_) (fun _ => ?_)
    · try rw [wo_PM]
      try rw [lf_PM_load]
      refine km_call (fun r79 s79 => ?_)
      exact lb_PM_giveTwo_105 o M N _ _ _ _
    · first | rw [wg_PM_9, Option.bind_some] | rw [Option.bind_some]
      rw [Option.bind_some]
      try rw [wl_PM_9]
      refine km_bind (fun x94 => ?_)
      first | rw [wg_PM_10, Option.bind_some] | rw [Option.bind_some]
      rw [Option.bind_some]
      try rw [wl_PM_10]
      refine km_bind (fun x101 => ?_)
      try rw [wo_PM]
      try rw [lf_PM_over]
      refine km_call (fun r102 s102 => ?_)
      exact lb_PM_giveTwo_105 o M N _ _ _ _
  · try rw [wo_PM]
    try rw [lf_PM_least]
    refine km_call (fun r64 s64 => ?_)
    exact lb_PM_giveTwo_105 o M N _ _ _ _
theorem lf_PM_giveTwo (o : Nat) (M : mv_M) (N : Nat) (σ : kS) (v1 : Int32) (v2 : Int32) : jf_PM_giveTwo N (wr_PM o M σ) o v1 v2 = (kf_PM_giveTwo N σ v1 v2).map (wq_PM o M) := lb_PM_giveTwo_0 o M N σ v1 v2
/-! ===== PlainLearnerModel.giveProduct(II)V ===== -/
def kb_PM_giveProduct_35 (N : Nat) : Nat → kS → Int32 → Int32 → Int32 → Int32 → Int32 → Int32 → Option (Unit × kS)
  | 0, _, _, _, _, _, _, _ => none
  | n + 1, σ, v2, v3, v4, v5, v6, v7 =>
    if v6 ≤ v7 then (some ((), σ)) else
    if v5 = 0 then none else
    if v5 = 0 then none else
    kk_call (kf_PM_load N σ (((64 * v4) + (v7 * v5)) + (v2 - v2 / v5 * v5))) fun r80 s80 =>
    kk_call (kf_PM_gives N s80 (((64 * v3) + ((v2 / v5) * v6)) + v7)) fun r86 s86 =>
    kk_call (kf_PM_load N s86 (((64 * v3) + ((v2 / v5) * v6)) + v7)) fun r92 s92 =>
    kk_call (kf_PM_gives N s92 (((64 * v4) + (v7 * v5)) + (v2 - v2 / v5 * v5))) fun r98 s98 =>
    kb_PM_giveProduct_35 N n s98 v2 v3 v4 v5 v6 (v7 + 1)
def kb_PM_giveProduct_0 (N : Nat) (σ : kS) (v1 : Int32) (v2 : Int32) : Option (Unit × kS) :=
  Option.bind (mj_tab (σ.2.2.1 4) 50 v1) fun x5 =>
  Option.bind (mj_tab (σ.2.2.1 5) 50 v1) fun x12 =>
  kk_call (kf_PM_sideOf N σ x12 1) fun r19 s19 =>
  kk_call (kf_PM_sideOf N s19 x5 1) fun r27 s27 =>
  kb_PM_giveProduct_35 N N s27 v2 x5 x12 r19 r27 0
def kf_PM_giveProduct (N : Nat) (σ : kS) (v1 : Int32) (v2 : Int32) : Option (Unit × kS) := kb_PM_giveProduct_0 N σ v1 v2
set_option maxHeartbeats 4000000 in
theorem lb_PM_giveProduct_35 (o : Nat) (M : mv_M) (N : Nat) : ∀ (n : Nat) (σ : kS) (v2 : Int32) (v3 : Int32) (v4 : Int32) (v5 : Int32) (v6 : Int32) (v7 : Int32), jb_PM_giveProduct_35 N n (wr_PM o M σ) o v2 v3 v4 v5 v6 v7 = (kb_PM_giveProduct_35 N n σ v2 v3 v4 v5 v6 v7).map (wq_PM o M) := by
  intro n
  induction n with
  | zero => intros; rfl
  | succ n ih =>
    intro σ v2 v3 v4 v5 v6 v7
    rw [jb_PM_giveProduct_35, kb_PM_giveProduct_35]
    refine km_ite (fun _ => ?_) (fun _ => ?_)
    · rfl
    · refine km_ite (fun _ => rfl) (fun _ => ?_)
      refine km_ite (fun _ => rfl) (fun _ => ?_)
      try rw [wo_PM]
      try rw [lf_PM_load]
      refine km_call (fun r80 s80 => ?_)
      try rw [wo_PM]
      try rw [lf_PM_gives]
      refine km_call (fun r86 s86 => ?_)
      try rw [wo_PM]
      try rw [lf_PM_load]
      refine km_call (fun r92 s92 => ?_)
      try rw [wo_PM]
      try rw [lf_PM_gives]
      refine km_call (fun r98 s98 => ?_)
      exact ih _ _ _ _ _ _ _
set_option maxHeartbeats 4000000 in
theorem lb_PM_giveProduct_0 (o : Nat) (M : mv_M) (N : Nat)  (σ : kS) (v1 : Int32) (v2 : Int32) : jb_PM_giveProduct_0 N (wr_PM o M σ) o v1 v2 = (kb_PM_giveProduct_0 N σ v1 v2).map (wq_PM o M) := by
  unfold jb_PM_giveProduct_0 kb_PM_giveProduct_0
  first | rw [wg_PM_4, Option.bind_some] | rw [Option.bind_some]
  rw [Option.bind_some]
  try rw [wl_PM_4]
  refine km_bind (fun x5 => ?_)
  first | rw [wg_PM_5, Option.bind_some] | rw [Option.bind_some]
  rw [Option.bind_some]
  try rw [wl_PM_5]
  refine km_bind (fun x12 => ?_)
  try rw [wo_PM]
  try rw [lf_PM_sideOf]
  refine km_call (fun r19 s19 => ?_)
  try rw [wo_PM]
  try rw [lf_PM_sideOf]
  refine km_call (fun r27 s27 => ?_)
  exact lb_PM_giveProduct_35 o M N N _ _ _ _ _ _ _
theorem lf_PM_giveProduct (o : Nat) (M : mv_M) (N : Nat) (σ : kS) (v1 : Int32) (v2 : Int32) : jf_PM_giveProduct N (wr_PM o M σ) o v1 v2 = (kf_PM_giveProduct N σ v1 v2).map (wq_PM o M) := lb_PM_giveProduct_0 o M N σ v1 v2
/-! ===== PlainLearnerModel.give(II)V ===== -/
def kb_PM_give_431 (N : Nat) (σ : kS) : Option (Unit × kS) :=
  some ((), σ)
def kb_PM_give_294 (N : Nat) (σ : kS) (s1 : Int32) (s2 : Int32) : Option (Unit × kS) :=
  kk_call (kf_PM_gives N σ (s1 + s2)) fun r295 s295 =>
  kb_PM_give_431 N s295
def kb_PM_give_255 (N : Nat) (σ : kS) (v1 : Int32) (v2 : Int32) (v3 : Int32) (v4 : Int32) (v5 : Int32) : Option (Unit × kS) :=
  kk_call (kf_PM_least N σ 1 1) fun r258 s258 =>
  if v4 = 8 then (Option.bind (mj_tab (s258.2.2.1 5) 50 v1) fun x276 =>
  kk_call (kf_PM_cells N s258 v1) fun r279 s279 =>
  kb_PM_give_294 N s279 v5 ((x276 * r279) + v2)) else
  kk_call (kf_PM_turnedCell N s258 v3 v2) fun r291 s291 =>
  kb_PM_give_294 N s291 v5 r291
def kb_PM_give_423 (N : Nat) (σ : kS) (v2 : Int32) (v5 : Int32) : Option (Unit × kS) :=
  kk_call (kf_PM_gives N σ (v5 + v2)) fun r428 s428 =>
  kb_PM_give_431 N s428
def kb_PM_give_419 (N : Nat) (σ : kS) (v2 : Int32) (v5 : Int32) (s1 : Int64) : Option (Unit × kS) :=
  kk_call (kf_PM_least N σ s1 1) fun r420 s420 =>
  kb_PM_give_423 N s420 v2 v5
def kb_PM_give_418 (N : Nat) (σ : kS) (v2 : Int32) (v5 : Int32) : Option (Unit × kS) :=
  kb_PM_give_419 N σ v2 v5 0
def kb_PM_give_207 (N : Nat) : Nat → kS → Int32 → Int32 → Int32 → Option (Unit × kS)
  | 0, _, _, _, _ => none
  | n + 1, σ, v3, v5, v6 =>
    kk_call (kf_PM_cells N σ v3) fun r211 s211 =>
    if r211 ≤ v6 then (kb_PM_give_431 N s211) else
    kk_call (kf_PM_least N s211 1 1) fun r220 s220 =>
    kk_call (kf_PM_gives N s220 (v5 + v6)) fun r229 s229 =>
    kb_PM_give_207 N n s229 v3 v5 (v6 + 1)
def kb_PM_give_167 (N : Nat) (c93 : kS → Int32 → Int32 → Int32 → Int32 → Int32 → Int32 → Int32 → Int32 → Option (Unit × kS)) (σ : kS) (v1 : Int32) (v2 : Int32) (v3 : Int32) (v4 : Int32) (v5 : Int32) (v6 : Int32) (v7 : Int32) (v8 : Int32) : Option (Unit × kS) :=
  Option.bind (mj_tab (σ.2.2.1 5) 50 v1) fun x177 =>
  kk_call (kf_PM_alongCell N σ v3 x177 v2 v8) fun r181 s181 =>
  kk_call (kf_PM_gives N s181 (v5 + r181)) fun r185 s185 =>
  c93 s185 v1 v2 v3 v4 v5 v6 v7 (v8 + 1)
def kb_PM_give_164 (N : Nat) (c93 : kS → Int32 → Int32 → Int32 → Int32 → Int32 → Int32 → Int32 → Int32 → Option (Unit × kS)) (σ : kS) (v1 : Int32) (v2 : Int32) (v3 : Int32) (v4 : Int32) (v5 : Int32) (v6 : Int32) (v7 : Int32) (v8 : Int32) (s1 : Int64) (s2 : Int64) : Option (Unit × kS) :=
  kk_call (kf_PM_least N σ s1 s2) fun r164 s164 =>
  kb_PM_give_167 N c93 s164 v1 v2 v3 v4 v5 v6 v7 v8
def kb_PM_give_141 (N : Nat) (c93 : kS → Int32 → Int32 → Int32 → Int32 → Int32 → Int32 → Int32 → Int32 → Option (Unit × kS)) (σ : kS) (v1 : Int32) (v2 : Int32) (v3 : Int32) (v4 : Int32) (v5 : Int32) (v6 : Int32) (v7 : Int32) (v8 : Int32) (s1 : Int64) : Option (Unit × kS) :=
  kk_call (kf_PM_least N σ s1 1) fun r142 s142 =>
  kb_PM_give_167 N c93 s142 v1 v2 v3 v4 v5 v6 v7 v8
def kb_PM_give_121 (N : Nat) (c93 : kS → Int32 → Int32 → Int32 → Int32 → Int32 → Int32 → Int32 → Int32 → Option (Unit × kS)) (σ : kS) (v1 : Int32) (v2 : Int32) (v3 : Int32) (v4 : Int32) (v5 : Int32) (v6 : Int32) (v7 : Int32) (v8 : Int32) : Option (Unit × kS) :=
  if v4 = 7 then (if v8 = v7 then (kb_PM_give_141 N c93 σ v1 v2 v3 v4 v5 v6 v7 v8 1) else
  kb_PM_give_141 N c93 σ v1 v2 v3 v4 v5 v6 v7 v8 0) else
  if v4 = 6 then (kb_PM_give_164 N c93 σ v1 v2 v3 v4 v5 v6 v7 v8 1 v6.toInt64) else
  kb_PM_give_164 N c93 σ v1 v2 v3 v4 v5 v6 v7 v8 1 1
def kb_PM_give_93 (N : Nat) : Nat → kS → Int32 → Int32 → Int32 → Int32 → Int32 → Int32 → Int32 → Int32 → Option (Unit × kS)
  | 0, _, _, _, _, _, _, _, _, _ => none
  | n + 1, σ, v1, v2, v3, v4, v5, v6, v7, v8 =>
    if v6 ≤ v8 then (kb_PM_give_431 N σ) else
    if v4 = 7 then (if 0 ≤ v7 then (kb_PM_give_121 N (kb_PM_give_93 N n) σ v1 v2 v3 v4 v5 v6 v7 v8) else
    kk_call (kf_PM_least N σ 0 0) fun r115 s115 =>
    kb_PM_give_167 N (kb_PM_give_93 N n) s115 v1 v2 v3 v4 v5 v6 v7 v8) else
    kb_PM_give_121 N (kb_PM_give_93 N n) σ v1 v2 v3 v4 v5 v6 v7 v8
def kb_PM_give_88 (N : Nat) (σ : kS) (v1 : Int32) (v2 : Int32) (v3 : Int32) (v4 : Int32) (v5 : Int32) (v6 : Int32) (s0 : Int32) : Option (Unit × kS) :=
  kb_PM_give_93 N N σ v1 v2 v3 v4 v5 v6 s0 0
def kb_PM_give_0 (N : Nat) (σ : kS) (v1 : Int32) (v2 : Int32) : Option (Unit × kS) :=
  Option.bind (mj_tab (σ.2.2.1 4) 50 v1) fun x5 =>
  Option.bind (mj_tab (σ.2.2.1 3) 50 v1) fun x12 =>
  if 4 ≤ x12 then (if x12 = 4 then (kk_call (kf_PM_giveProduct N σ v1 v2) fun r45 s45 =>
  kb_PM_give_431 N s45) else
  if 8 ≤ x12 then (if x12 = 15 then (kb_PM_give_207 N N σ x5 (64 * x5) 0) else
  if x12 = 8 then (kb_PM_give_255 N σ v1 v2 x5 x12 (64 * x5)) else
  if x12 = 9 then (kb_PM_give_255 N σ v1 v2 x5 x12 (64 * x5)) else
  kk_call (kf_PM_load N σ ((64 * x5) + v2)) fun r306 s306 =>
  if x12 = 10 then (kk_call (kf_PM_least N s306 (-1) 1) fun r321 s321 =>
  kb_PM_give_423 N s321 v2 (64 * x5)) else
  if x12 = 14 then (kk_call (kf_PM_least N s306 1 1) fun r337 s337 =>
  kb_PM_give_423 N s337 v2 (64 * x5)) else
  if x12 = 13 then (kk_call (kf_PM_plus N s306 (s306.2.1 0) (s306.2.1 1) (s306.2.1 0) (s306.2.1 1)) fun r367 s367 =>
  kb_PM_give_423 N s367 v2 (64 * x5)) else
  if (lg_cmp (s306.2.1 1) 0) = 0 then (kb_PM_give_423 N s306 v2 (64 * x5)) else
  if (lg_cmp (s306.2.1 0) 0) ≤ 0 then (if x12 = 12 then (if 0 ≤ (lg_cmp (s306.2.1 0) 0) then (kb_PM_give_418 N s306 v2 (64 * x5)) else
  kb_PM_give_419 N s306 v2 (64 * x5) (-1)) else
  kb_PM_give_418 N s306 v2 (64 * x5)) else
  kb_PM_give_419 N s306 v2 (64 * x5) 1) else
  Option.bind (mj_tab (σ.2.2.1 5) 50 v1) fun x65 =>
  kk_call (kf_PM_sideOf N σ x5 x65) fun r66 s66 =>
  if x12 = 7 then (kk_call (kf_PM_greatest N s66 v1 v2) fun r81 s81 =>
  kb_PM_give_88 N s81 v1 v2 x5 x12 (64 * x5) r66 r81) else
  kb_PM_give_88 N s66 v1 v2 x5 x12 (64 * x5) r66 0) else
  kk_call (kf_PM_giveTwo N σ v1 v2) fun r30 s30 =>
  kb_PM_give_431 N s30
def kf_PM_give (N : Nat) (σ : kS) (v1 : Int32) (v2 : Int32) : Option (Unit × kS) := kb_PM_give_0 N σ v1 v2
set_option maxHeartbeats 4000000 in
theorem lb_PM_give_431 (o : Nat) (M : mv_M) (N : Nat)  (σ : kS) : jb_PM_give_431 N (wr_PM o M σ) = (kb_PM_give_431 N σ).map (wq_PM o M) := by
  unfold jb_PM_give_431 kb_PM_give_431
  rfl
set_option maxHeartbeats 4000000 in
theorem lb_PM_give_294 (o : Nat) (M : mv_M) (N : Nat)  (σ : kS) (s1 : Int32) (s2 : Int32) : jb_PM_give_294 N (wr_PM o M σ) o s1 s2 = (kb_PM_give_294 N σ s1 s2).map (wq_PM o M) := by
  unfold jb_PM_give_294 kb_PM_give_294
  try rw [wo_PM]
  try rw [lf_PM_gives]
  refine km_call (fun r295 s295 => ?_)
  exact lb_PM_give_431 o M N _
set_option maxHeartbeats 4000000 in
theorem lb_PM_give_255 (o : Nat) (M : mv_M) (N : Nat)  (σ : kS) (v1 : Int32) (v2 : Int32) (v3 : Int32) (v4 : Int32) (v5 : Int32) : jb_PM_give_255 N (wr_PM o M σ) o v1 v2 v3 v4 v5 = (kb_PM_give_255 N σ v1 v2 v3 v4 v5).map (wq_PM o M) := by
  unfold jb_PM_give_255 kb_PM_give_255
  try rw [wo_PM]
  try rw [lf_PM_least]
  refine km_call (fun r258 s258 => ?_)
  refine km_ite (fun _ => ?_) (fun _ => ?_)
  · first | rw [wg_PM_5, Option.bind_some] | rw [Option.bind_some]
    rw [Option.bind_some]
    try rw [wl_PM_5]
    refine km_bind (fun x276 => ?_)
    try rw [wo_PM]
    try rw [lf_PM_cells]
    refine km_call (fun r279 s279 => ?_)
    exact lb_PM_give_294 o M N _ _ _
  · try rw [wo_PM]
    try rw [lf_PM_turnedCell]
    refine km_call (fun r291 s291 => ?_)
    exact lb_PM_give_294 o M N _ _ _
set_option maxHeartbeats 4000000 in
theorem lb_PM_give_423 (o : Nat) (M : mv_M) (N : Nat)  (σ : kS) (v2 : Int32) (v5 : Int32) : jb_PM_give_423 N (wr_PM o M σ) o v2 v5 = (kb_PM_give_423 N σ v2 v5).map (wq_PM o M) := by
  unfold jb_PM_give_423 kb_PM_give_423
  try rw [wo_PM]
  try rw [lf_PM_gives]
  refine km_call (fun r428 s428 => ?_)
  exact lb_PM_give_431 o M N _
set_option maxHeartbeats 4000000 in
theorem lb_PM_give_419 (o : Nat) (M : mv_M) (N : Nat)  (σ : kS) (v2 : Int32) (v5 : Int32) (s1 : Int64) : jb_PM_give_419 N (wr_PM o M σ) o v2 v5 o s1 = (kb_PM_give_419 N σ v2 v5 s1).map (wq_PM o M) := by
  unfold jb_PM_give_419 kb_PM_give_419
  try rw [wo_PM]
  try rw [lf_PM_least]
  refine km_call (fun r420 s420 => ?_)
  exact lb_PM_give_423 o M N _ _ _
set_option maxHeartbeats 4000000 in
theorem lb_PM_give_418 (o : Nat) (M : mv_M) (N : Nat)  (σ : kS) (v2 : Int32) (v5 : Int32) : jb_PM_give_418 N (wr_PM o M σ) o v2 v5 o = (kb_PM_give_418 N σ v2 v5).map (wq_PM o M) := by
  unfold jb_PM_give_418 kb_PM_give_418
  exact lb_PM_give_419 o M N _ _ _ _
set_option maxHeartbeats 4000000 in
theorem lb_PM_give_207 (o : Nat) (M : mv_M) (N : Nat) : ∀ (n : Nat) (σ : kS) (v3 : Int32) (v5 : Int32) (v6 : Int32), jb_PM_give_207 N n (wr_PM o M σ) o v3 v5 v6 = (kb_PM_give_207 N n σ v3 v5 v6).map (wq_PM o M) := by
  intro n
  induction n with
  | zero => intros; rfl
  | succ n ih =>
    intro σ v3 v5 v6
    rw [jb_PM_give_207, kb_PM_give_207]
    try rw [wo_PM]
    try rw [lf_PM_cells]
    refine km_call (fun r211 s211 => ?_)
    refine km_ite (fun _ => ?_) (fun _ => ?_)
    · exact lb_PM_give_431 o M N _
    · try rw [wo_PM]
      try rw [lf_PM_least]
      refine km_call (fun r220 s220 => ?_)
      try rw [wo_PM]
      try rw [lf_PM_gives]
      refine km_call (fun r229 s229 => ?_)
      exact ih _ _ _ _
set_option maxHeartbeats 4000000 in
theorem lb_PM_give_167 (o : Nat) (M : mv_M) (N : Nat) (k93 : mv_M → Nat → Int32 → Int32 → Int32 → Int32 → Int32 → Int32 → Int32 → Int32 → Option (Unit × mv_M)) (c93 : kS → Int32 → Int32 → Int32 → Int32 → Int32 → Int32 → Int32 → Int32 → Option (Unit × kS)) (hc93 : ∀ (σ : kS) (v1 : Int32) (v2 : Int32) (v3 : Int32) (v4 : Int32) (v5 : Int32) (v6 : Int32) (v7 : Int32) (v8 : Int32), k93 (wr_PM o M σ) o v1 v2 v3 v4 v5 v6 v7 v8 = (c93 σ v1 v2 v3 v4 v5 v6 v7 v8).map (wq_PM o M))  (σ : kS) (v1 : Int32) (v2 : Int32) (v3 : Int32) (v4 : Int32) (v5 : Int32) (v6 : Int32) (v7 : Int32) (v8 : Int32) : jb_PM_give_167 N k93 (wr_PM o M σ) o v1 v2 v3 v4 v5 v6 v7 v8 = (kb_PM_give_167 N c93 σ v1 v2 v3 v4 v5 v6 v7 v8).map (wq_PM o M) := by
  unfold jb_PM_give_167 kb_PM_give_167
  first | rw [wg_PM_5, Option.bind_some] | rw [Option.bind_some]
  rw [Option.bind_some]
  try rw [wl_PM_5]
  refine km_bind (fun x177 => ?_)
  try rw [wo_PM]
  try rw [lf_PM_alongCell]
  refine km_call (fun r181 s181 => ?_)
  try rw [wo_PM]
  try rw [lf_PM_gives]
  refine km_call (fun r185 s185 => ?_)
  exact hc93 _ _ _ _ _ _ _ _ _
set_option maxHeartbeats 4000000 in
theorem lb_PM_give_164 (o : Nat) (M : mv_M) (N : Nat) (k93 : mv_M → Nat → Int32 → Int32 → Int32 → Int32 → Int32 → Int32 → Int32 → Int32 → Option (Unit × mv_M)) (c93 : kS → Int32 → Int32 → Int32 → Int32 → Int32 → Int32 → Int32 → Int32 → Option (Unit × kS)) (hc93 : ∀ (σ : kS) (v1 : Int32) (v2 : Int32) (v3 : Int32) (v4 : Int32) (v5 : Int32) (v6 : Int32) (v7 : Int32) (v8 : Int32), k93 (wr_PM o M σ) o v1 v2 v3 v4 v5 v6 v7 v8 = (c93 σ v1 v2 v3 v4 v5 v6 v7 v8).map (wq_PM o M))  (σ : kS) (v1 : Int32) (v2 : Int32) (v3 : Int32) (v4 : Int32) (v5 : Int32) (v6 : Int32) (v7 : Int32) (v8 : Int32) (s1 : Int64) (s2 : Int64) : jb_PM_give_164 N k93 (wr_PM o M σ) o v1 v2 v3 v4 v5 v6 v7 v8 o s1 s2 = (kb_PM_give_164 N c93 σ v1 v2 v3 v4 v5 v6 v7 v8 s1 s2).map (wq_PM o M) := by
  unfold jb_PM_give_164 kb_PM_give_164
  try rw [wo_PM]
  try rw [lf_PM_least]
  refine km_call (fun r164 s164 => ?_)
  exact lb_PM_give_167 o M N _ _ hc93 _ _ _ _ _ _ _ _ _
set_option maxHeartbeats 4000000 in
theorem lb_PM_give_141 (o : Nat) (M : mv_M) (N : Nat) (k93 : mv_M → Nat → Int32 → Int32 → Int32 → Int32 → Int32 → Int32 → Int32 → Int32 → Option (Unit × mv_M)) (c93 : kS → Int32 → Int32 → Int32 → Int32 → Int32 → Int32 → Int32 → Int32 → Option (Unit × kS)) (hc93 : ∀ (σ : kS) (v1 : Int32) (v2 : Int32) (v3 : Int32) (v4 : Int32) (v5 : Int32) (v6 : Int32) (v7 : Int32) (v8 : Int32), k93 (wr_PM o M σ) o v1 v2 v3 v4 v5 v6 v7 v8 = (c93 σ v1 v2 v3 v4 v5 v6 v7 v8).map (wq_PM o M))  (σ : kS) (v1 : Int32) (v2 : Int32) (v3 : Int32) (v4 : Int32) (v5 : Int32) (v6 : Int32) (v7 : Int32) (v8 : Int32) (s1 : Int64) : jb_PM_give_141 N k93 (wr_PM o M σ) o v1 v2 v3 v4 v5 v6 v7 v8 o s1 = (kb_PM_give_141 N c93 σ v1 v2 v3 v4 v5 v6 v7 v8 s1).map (wq_PM o M) := by
  unfold jb_PM_give_141 kb_PM_give_141
  try rw [wo_PM]
  try rw [lf_PM_least]
  refine km_call (fun r142 s142 => ?_)
  exact lb_PM_give_167 o M N _ _ hc93 _ _ _ _ _ _ _ _ _
set_option maxHeartbeats 4000000 in
theorem lb_PM_give_121 (o : Nat) (M : mv_M) (N : Nat) (k93 : mv_M → Nat → Int32 → Int32 → Int32 → Int32 → Int32 → Int32 → Int32 → Int32 → Option (Unit × mv_M)) (c93 : kS → Int32 → Int32 → Int32 → Int32 → Int32 → Int32 → Int32 → Int32 → Option (Unit × kS)) (hc93 : ∀ (σ : kS) (v1 : Int32) (v2 : Int32) (v3 : Int32) (v4 : Int32) (v5 : Int32) (v6 : Int32) (v7 : Int32) (v8 : Int32), k93 (wr_PM o M σ) o v1 v2 v3 v4 v5 v6 v7 v8 = (c93 σ v1 v2 v3 v4 v5 v6 v7 v8).map (wq_PM o M))  (σ : kS) (v1 : Int32) (v2 : Int32) (v3 : Int32) (v4 : Int32) (v5 : Int32) (v6 : Int32) (v7 : Int32) (v8 : Int32) : jb_PM_give_121 N k93 (wr_PM o M σ) o v1 v2 v3 v4 v5 v6 v7 v8 = (kb_PM_give_121 N c93 σ v1 v2 v3 v4 v5 v6 v7 v8).map (wq_PM o M) := by
  unfold jb_PM_give_121 kb_PM_give_121
  refine km_ite (fun _ => ?_) (fun _ => ?_)
  · refine km_ite (fun _ => ?_) (fun _ => ?_)
    · exact lb_PM_give_141 o M N _ _ hc93 _ _ _ _ _ _ _ _ _ _
    · exact lb_PM_give_141 o M N _ _ hc93 _ _ _ _ _ _ _ _ _ _
  · refine km_ite (fun _ => ?_) (fun _ => ?_)
    · exact lb_PM_give_164 o M N _ _ hc93 _ _ _ _ _ _ _ _ _ _ _
    · exact lb_PM_give_164 o M N _ _ hc93 _ _ _ _ _ _ _ _ _ _ _
set_option maxHeartbeats 4000000 in
theorem lb_PM_give_93 (o : Nat) (M : mv_M) (N : Nat) : ∀ (n : Nat) (σ : kS) (v1 : Int32) (v2 : Int32) (v3 : Int32) (v4 : Int32) (v5 : Int32) (v6 : Int32) (v7 : Int32) (v8 : Int32), jb_PM_give_93 N n (wr_PM o M σ) o v1 v2 v3 v4 v5 v6 v7 v8 = (kb_PM_give_93 N n σ v1 v2 v3 v4 v5 v6 v7 v8).map (wq_PM o M) := by
  intro n
  induction n with
  | zero => intros; rfl
  | succ n ih =>
    intro σ v1 v2 v3 v4 v5 v6 v7 v8
    rw [jb_PM_give_93, kb_PM_give_93]
    refine km_ite (fun _ => ?_) (fun _ => ?_)
    · exact lb_PM_give_431 o M N _
    · refine km_ite (fun _ => ?_) (fun _ => ?_)
      · refine km_ite (fun _ => ?_) (fun _ => ?_)
        · exact lb_PM_give_121 o M N _ _ ih _ _ _ _ _ _ _ _ _
        · try rw [wo_PM]
          try rw [lf_PM_least]
          refine km_call (fun r115 s115 => ?_)
          exact lb_PM_give_167 o M N _ _ ih _ _ _ _ _ _ _ _ _
      · exact lb_PM_give_121 o M N _ _ ih _ _ _ _ _ _ _ _ _
set_option maxHeartbeats 4000000 in
theorem lb_PM_give_88 (o : Nat) (M : mv_M) (N : Nat)  (σ : kS) (v1 : Int32) (v2 : Int32) (v3 : Int32) (v4 : Int32) (v5 : Int32) (v6 : Int32) (s0 : Int32) : jb_PM_give_88 N (wr_PM o M σ) o v1 v2 v3 v4 v5 v6 s0 = (kb_PM_give_88 N σ v1 v2 v3 v4 v5 v6 s0).map (wq_PM o M) := by
  unfold jb_PM_give_88 kb_PM_give_88
  exact lb_PM_give_93 o M N N _ _ _ _ _ _ _ _ _
set_option maxHeartbeats 4000000 in
theorem lb_PM_give_0 (o : Nat) (M : mv_M) (N : Nat)  (σ : kS) (v1 : Int32) (v2 : Int32) : jb_PM_give_0 N (wr_PM o M σ) o v1 v2 = (kb_PM_give_0 N σ v1 v2).map (wq_PM o M) := by
  unfold jb_PM_give_0 kb_PM_give_0
  first | rw [wg_PM_4, Option.bind_some] | rw [Option.bind_some]
  rw [Option.bind_some]
  try rw [wl_PM_4]
  refine km_bind (fun x5 => ?_)
  first | rw [wg_PM_3, Option.bind_some] | rw [Option.bind_some]
  rw [Option.bind_some]
  try rw [wl_PM_3]
  refine km_bind (fun x12 => ?_)
  refine km_ite (fun _ => ?_) (fun _ => ?_)
  · refine km_ite (fun _ => ?_) (fun _ => ?_)
    · try rw [wo_PM]
      try rw [lf_PM_giveProduct]
      refine km_call (fun r45 s45 => ?_)
      exact lb_PM_give_431 o M N _
    · refine km_ite (fun _ => ?_) (fun _ => ?_)
      · refine km_ite (fun _ => ?_) (fun _ => ?_)
        · exact lb_PM_give_207 o M N N _ _ _ _
        · refine km_ite (fun _ => ?_) (fun _ => ?_)
          · exact lb_PM_give_255 o M N _ _ _ _ _ _
          · refine km_ite (fun _ => ?_) (fun _ => ?_)
            · exact lb_PM_give_255 o M N _ _ _ _ _ _
            · try rw [wo_PM]
              try rw [lf_PM_load]
              refine km_call (fun r306 s306 => ?_)
              refine km_ite (fun _ => ?_) (fun _ => ?_)
              · try rw [wo_PM]
                try rw [lf_PM_least]
                refine km_call (fun r321 s321 => ?_)
                exact lb_PM_give_423 o M N _ _ _
              · refine km_ite (fun _ => ?_) (fun _ => ?_)
                · try rw [wo_PM]
                  try rw [lf_PM_least]
                  refine km_call (fun r337 s337 => ?_)
                  exact lb_PM_give_423 o M N _ _ _
                · refine km_ite (fun _ => ?_) (fun _ => ?_)
                  · first | rw [wg_PM_0, Option.bind_some] | rw [Option.bind_some]
                    first | rw [wg_PM_1, Option.bind_some] | rw [Option.bind_some]
                    first | rw [wg_PM_0, Option.bind_some] | rw [Option.bind_some]
                    first | rw [wg_PM_1, Option.bind_some] | rw [Option.bind_some]
                    try rw [wo_PM]
                    try rw [lf_PM_plus]
                    refine km_call (fun r367 s367 => ?_)
                    exact lb_PM_give_423 o M N _ _ _
                  · first | rw [wg_PM_1, Option.bind_some] | rw [Option.bind_some]
                    refine km_ite (fun _ => ?_) (fun _ => ?_)
                    · exact lb_PM_give_423 o M N _ _ _
                    · first | rw [wg_PM_0, Option.bind_some] | rw [Option.bind_some]
                      refine km_ite (fun _ => ?_) (fun _ => ?_)
                      · refine km_ite (fun _ => ?_) (fun _ => ?_)
                        · first | rw [wg_PM_0, Option.bind_some] | rw [Option.bind_some]
                          refine km_ite (fun _ => ?_) (fun _ => ?_)
                          · exact lb_PM_give_418 o M N _ _ _
                          · exact lb_PM_give_419 o M N _ _ _ _
                        · exact lb_PM_give_418 o M N _ _ _
                      · exact lb_PM_give_419 o M N _ _ _ _
      · first | rw [wg_PM_5, Option.bind_some] | rw [Option.bind_some]
        rw [Option.bind_some]
        try rw [wl_PM_5]
        refine km_bind (fun x65 => ?_)
        try rw [wo_PM]
        try rw [lf_PM_sideOf]
        refine km_call (fun r66 s66 => ?_)
        refine km_ite (fun _ => ?_) (fun _ => ?_)
        · try rw [wo_PM]
          try rw [lf_PM_greatest]
          refine km_call (fun r81 s81 => ?_)
          exact lb_PM_give_88 o M N _ _ _ _ _ _ _ _
        · exact lb_PM_give_88 o M N _ _ _ _ _ _ _ _
  · try rw [wo_PM]
    try rw [lf_PM_giveTwo]
    refine km_call (fun r30 s30 => ?_)
    exact lb_PM_give_431 o M N _
theorem lf_PM_give (o : Nat) (M : mv_M) (N : Nat) (σ : kS) (v1 : Int32) (v2 : Int32) : jf_PM_give N (wr_PM o M σ) o v1 v2 = (kf_PM_give N σ v1 v2).map (wq_PM o M) := lb_PM_give_0 o M N σ v1 v2
/-! ===== PlainLearnerModel.slopes(II)V ===== -/
def kb_PM_slopes_167 (N : Nat) (c68 : kS → Int32 → Int32 → Option (Unit × kS)) (σ : kS) (v2 : Int32) (v3 : Int32) : Option (Unit × kS) :=
  c68 σ v2 (v3 + (-1))
def kb_PM_slopes_161 (N : Nat) (c68 : kS → Int32 → Int32 → Option (Unit × kS)) (c97 : kS → Int32 → Int32 → Int32 → Int32 → Option (Unit × kS)) (σ : kS) (v2 : Int32) (v3 : Int32) (v4 : Int32) (v5 : Int32) : Option (Unit × kS) :=
  c97 σ v2 v3 v4 (v5 + 1)
def kb_PM_slopes_154 (N : Nat) (c68 : kS → Int32 → Int32 → Option (Unit × kS)) (c97 : kS → Int32 → Int32 → Int32 → Int32 → Option (Unit × kS)) (σ : kS) (v2 : Int32) (v3 : Int32) (v4 : Int32) (v5 : Int32) : Option (Unit × kS) :=
  kk_call (kf_PM_give N σ v3 v5) fun r158 s158 =>
  kb_PM_slopes_161 N c68 c97 s158 v2 v3 v4 v5
def kb_PM_slopes_97 (N : Nat) (c68 : kS → Int32 → Int32 → Option (Unit × kS)) : Nat → kS → Int32 → Int32 → Int32 → Int32 → Option (Unit × kS)
  | 0, _, _, _, _, _ => none
  | n + 1, σ, v2, v3, v4, v5 =>
    if v4 ≤ v5 then (kb_PM_slopes_167 N c68 σ v2 v3) else
    Option.bind (mj_tabL (σ.2.2.2 13) 3200 ((64 * v3) + v5)) fun x116 =>
    kk_let (kL σ 15 x116) fun s117 =>
    Option.bind (mj_tabL (s117.2.2.2 14) 3200 ((64 * v3) + v5)) fun x132 =>
    kk_let (kL s117 16 x132) fun s133 =>
    if (lg_cmp (s133.2.1 15) 0) = 0 then (if (lg_cmp (s133.2.1 16) 0) = 0 then (kb_PM_slopes_154 N c68 (kb_PM_slopes_97 N c68 n) s133 v2 v3 v4 v5) else
    kb_PM_slopes_161 N c68 (kb_PM_slopes_97 N c68 n) s133 v2 v3 v4 v5) else
    kb_PM_slopes_154 N c68 (kb_PM_slopes_97 N c68 n) s133 v2 v3 v4 v5
def kb_PM_slopes_68 (N : Nat) : Nat → kS → Int32 → Int32 → Option (Unit × kS)
  | 0, _, _, _ => none
  | n + 1, σ, v2, v3 =>
    if v3 ≤ v2 then (some ((), σ)) else
    Option.bind (mj_tab (σ.2.2.1 3) 50 v3) fun x78 =>
    if x78 = (-2) then (kb_PM_slopes_167 N (kb_PM_slopes_68 N n) σ v2 v3) else
    kk_call (kf_PM_cells N σ v3) fun r89 s89 =>
    kb_PM_slopes_97 N (kb_PM_slopes_68 N n) N s89 v2 v3 r89 0
def kb_PM_slopes_39 (N : Nat) : Nat → kS → Int32 → Int32 → Int32 → Option (Unit × kS)
  | 0, _, _, _, _ => none
  | n + 1, σ, v1, v2, v3 =>
    kk_call (kf_PM_cells N σ v1) fun r42 s42 =>
    if r42 ≤ v3 then (kb_PM_slopes_68 N N s42 v2 v1) else
    mj_gd ((64 * v1) + v3) 3200 <| kk_let (kB s42 13 ((64 * v1) + v3).toNatClampNeg 1) fun s59 =>
    kb_PM_slopes_39 N n s59 v1 v2 (v3 + 1)
def kb_PM_slopes_7 (N : Nat) : Nat → kS → Int32 → Int32 → Int32 → Option (Unit × kS)
  | 0, _, _, _, _ => none
  | n + 1, σ, v1, v2, v3 =>
    if (64 * (v1 + 1)) ≤ v3 then (kb_PM_slopes_39 N N σ v1 v2 0) else
    mj_gd v3 3200 <| kk_let (kB σ 13 v3.toNatClampNeg 0) fun s23 =>
    mj_gd v3 3200 <| kk_let (kB s23 14 v3.toNatClampNeg 1) fun s30 =>
    kb_PM_slopes_7 N n s30 v1 v2 (v3 + 1)
def kb_PM_slopes_0 (N : Nat) (σ : kS) (v1 : Int32) (v2 : Int32) : Option (Unit × kS) :=
  kk_call (kf_PM_reckon N σ v1) fun r2 s2 =>
  kb_PM_slopes_7 N N s2 v1 v2 0
def kf_PM_slopes (N : Nat) (σ : kS) (v1 : Int32) (v2 : Int32) : Option (Unit × kS) := kb_PM_slopes_0 N σ v1 v2
set_option maxHeartbeats 4000000 in
theorem lb_PM_slopes_167 (o : Nat) (M : mv_M) (N : Nat) (k68 : mv_M → Nat → Int32 → Int32 → Option (Unit × mv_M)) (c68 : kS → Int32 → Int32 → Option (Unit × kS)) (hc68 : ∀ (σ : kS) (v2 : Int32) (v3 : Int32), k68 (wr_PM o M σ) o v2 v3 = (c68 σ v2 v3).map (wq_PM o M))  (σ : kS) (v2 : Int32) (v3 : Int32) : jb_PM_slopes_167 N k68 (wr_PM o M σ) o v2 v3 = (kb_PM_slopes_167 N c68 σ v2 v3).map (wq_PM o M) := by
  unfold jb_PM_slopes_167 kb_PM_slopes_167
  exact hc68 _ _ _
set_option maxHeartbeats 4000000 in
theorem lb_PM_slopes_161 (o : Nat) (M : mv_M) (N : Nat) (k68 : mv_M → Nat → Int32 → Int32 → Option (Unit × mv_M)) (c68 : kS → Int32 → Int32 → Option (Unit × kS)) (k97 : mv_M → Nat → Int32 → Int32 → Int32 → Int32 → Option (Unit × mv_M)) (c97 : kS → Int32 → Int32 → Int32 → Int32 → Option (Unit × kS)) (hc68 : ∀ (σ : kS) (v2 : Int32) (v3 : Int32), k68 (wr_PM o M σ) o v2 v3 = (c68 σ v2 v3).map (wq_PM o M)) (hc97 : ∀ (σ : kS) (v2 : Int32) (v3 : Int32) (v4 : Int32) (v5 : Int32), k97 (wr_PM o M σ) o v2 v3 v4 v5 = (c97 σ v2 v3 v4 v5).map (wq_PM o M))  (σ : kS) (v2 : Int32) (v3 : Int32) (v4 : Int32) (v5 : Int32) : jb_PM_slopes_161 N k68 k97 (wr_PM o M σ) o v2 v3 v4 v5 = (kb_PM_slopes_161 N c68 c97 σ v2 v3 v4 v5).map (wq_PM o M) := by
  unfold jb_PM_slopes_161 kb_PM_slopes_161
  exact hc97 _ _ _ _ _
set_option maxHeartbeats 4000000 in
theorem lb_PM_slopes_154 (o : Nat) (M : mv_M) (N : Nat) (k68 : mv_M → Nat → Int32 → Int32 → Option (Unit × mv_M)) (c68 : kS → Int32 → Int32 → Option (Unit × kS)) (k97 : mv_M → Nat → Int32 → Int32 → Int32 → Int32 → Option (Unit × mv_M)) (c97 : kS → Int32 → Int32 → Int32 → Int32 → Option (Unit × kS)) (hc68 : ∀ (σ : kS) (v2 : Int32) (v3 : Int32), k68 (wr_PM o M σ) o v2 v3 = (c68 σ v2 v3).map (wq_PM o M)) (hc97 : ∀ (σ : kS) (v2 : Int32) (v3 : Int32) (v4 : Int32) (v5 : Int32), k97 (wr_PM o M σ) o v2 v3 v4 v5 = (c97 σ v2 v3 v4 v5).map (wq_PM o M))  (σ : kS) (v2 : Int32) (v3 : Int32) (v4 : Int32) (v5 : Int32) : jb_PM_slopes_154 N k68 k97 (wr_PM o M σ) o v2 v3 v4 v5 = (kb_PM_slopes_154 N c68 c97 σ v2 v3 v4 v5).map (wq_PM o M) := by
  unfold jb_PM_slopes_154 kb_PM_slopes_154
  try rw [wo_PM]
  try rw [lf_PM_give]
  refine km_call (fun r158 s158 => ?_)
  exact lb_PM_slopes_161 o M N _ _ _ _ hc68 hc97 _ _ _ _ _
set_option maxHeartbeats 4000000 in
theorem lb_PM_slopes_97 (o : Nat) (M : mv_M) (N : Nat) (k68 : mv_M → Nat → Int32 → Int32 → Option (Unit × mv_M)) (c68 : kS → Int32 → Int32 → Option (Unit × kS)) (hc68 : ∀ (σ : kS) (v2 : Int32) (v3 : Int32), k68 (wr_PM o M σ) o v2 v3 = (c68 σ v2 v3).map (wq_PM o M)) : ∀ (n : Nat) (σ : kS) (v2 : Int32) (v3 : Int32) (v4 : Int32) (v5 : Int32), jb_PM_slopes_97 N k68 n (wr_PM o M σ) o v2 v3 v4 v5 = (kb_PM_slopes_97 N c68 n σ v2 v3 v4 v5).map (wq_PM o M) := by
  intro n
  induction n with
  | zero => intros; rfl
  | succ n ih =>
    intro σ v2 v3 v4 v5
    rw [jb_PM_slopes_97, kb_PM_slopes_97]
    refine km_ite (fun _ => ?_) (fun _ => ?_)
    · exact lb_PM_slopes_167 o M N _ _ hc68 _ _ _
    · first | rw [wg_PM_13, Option.bind_some] | rw [Option.bind_some]
      rw [Option.bind_some]
      try rw [wl_PM_13]
      refine km_bind (fun x116 => ?_)
      rw [wp_PM_15, Option.bind_some]
      refine km_let ?_
      first | rw [wg_PM_14, Option.bind_some] | rw [Option.bind_some]
      rw [Option.bind_some]
      try rw [wl_PM_14]
      refine km_bind (fun x132 => ?_)
      rw [wp_PM_16, Option.bind_some]
      refine km_let ?_
      first | rw [wg_PM_15, Option.bind_some] | rw [Option.bind_some]
      refine km_ite (fun _ => ?_) (fun _ => ?_)
      · first | rw [wg_PM_16, Option.bind_some] | rw [Option.bind_some]
        refine km_ite (fun _ => ?_) (fun _ => ?_)
        · exact lb_PM_slopes_154 o M N _ _ _ _ hc68 ih _ _ _ _ _
        · exact lb_PM_slopes_161 o M N _ _ _ _ hc68 ih _ _ _ _ _
      · exact lb_PM_slopes_154 o M N _ _ _ _ hc68 ih _ _ _ _ _
set_option maxHeartbeats 4000000 in
theorem lb_PM_slopes_68 (o : Nat) (M : mv_M) (N : Nat) : ∀ (n : Nat) (σ : kS) (v2 : Int32) (v3 : Int32), jb_PM_slopes_68 N n (wr_PM o M σ) o v2 v3 = (kb_PM_slopes_68 N n σ v2 v3).map (wq_PM o M) := by
  intro n
  induction n with
  | zero => intros; rfl
  | succ n ih =>
    intro σ v2 v3
    rw [jb_PM_slopes_68, kb_PM_slopes_68]
    refine km_ite (fun _ => ?_) (fun _ => ?_)
    · rfl
    · first | rw [wg_PM_3, Option.bind_some] | rw [Option.bind_some]
      rw [Option.bind_some]
      try rw [wl_PM_3]
      refine km_bind (fun x78 => ?_)
      refine km_ite (fun _ => ?_) (fun _ => ?_)
      · exact lb_PM_slopes_167 o M N _ _ ih _ _ _
      · try rw [wo_PM]
        try rw [lf_PM_cells]
        refine km_call (fun r89 s89 => ?_)
        exact lb_PM_slopes_97 o M N _ _ ih N _ _ _ _ _
set_option maxHeartbeats 4000000 in
theorem lb_PM_slopes_39 (o : Nat) (M : mv_M) (N : Nat) : ∀ (n : Nat) (σ : kS) (v1 : Int32) (v2 : Int32) (v3 : Int32), jb_PM_slopes_39 N n (wr_PM o M σ) o v1 v2 v3 = (kb_PM_slopes_39 N n σ v1 v2 v3).map (wq_PM o M) := by
  intro n
  induction n with
  | zero => intros; rfl
  | succ n ih =>
    intro σ v1 v2 v3
    rw [jb_PM_slopes_39, kb_PM_slopes_39]
    try rw [wo_PM]
    try rw [lf_PM_cells]
    refine km_call (fun r42 s42 => ?_)
    refine km_ite (fun _ => ?_) (fun _ => ?_)
    · exact lb_PM_slopes_68 o M N N _ _ _
    · first | rw [wg_PM_13, Option.bind_some] | rw [Option.bind_some]
      rw [Option.bind_some]
      rw [wx_PM_13]
      refine km_gd (fun _ => ?_)
      refine km_let ?_
      skip
      exact ih _ _ _ _
set_option maxHeartbeats 4000000 in
theorem lb_PM_slopes_7 (o : Nat) (M : mv_M) (N : Nat) : ∀ (n : Nat) (σ : kS) (v1 : Int32) (v2 : Int32) (v3 : Int32), jb_PM_slopes_7 N n (wr_PM o M σ) o v1 v2 v3 = (kb_PM_slopes_7 N n σ v1 v2 v3).map (wq_PM o M) := by
  intro n
  induction n with
  | zero => intros; rfl
  | succ n ih =>
    intro σ v1 v2 v3
    rw [jb_PM_slopes_7, kb_PM_slopes_7]
    refine km_ite (fun _ => ?_) (fun _ => ?_)
    · exact lb_PM_slopes_39 o M N N _ _ _ _
    · first | rw [wg_PM_13, Option.bind_some] | rw [Option.bind_some]
      rw [Option.bind_some]
      rw [wx_PM_13]
      refine km_gd (fun _ => ?_)
      refine km_let ?_
      skip
      first | rw [wg_PM_14, Option.bind_some] | rw [Option.bind_some]
      rw [Option.bind_some]
      rw [wx_PM_14]
      refine km_gd (fun _ => ?_)
      refine km_let ?_
      skip
      exact ih _ _ _ _
set_option maxHeartbeats 4000000 in
theorem lb_PM_slopes_0 (o : Nat) (M : mv_M) (N : Nat)  (σ : kS) (v1 : Int32) (v2 : Int32) : jb_PM_slopes_0 N (wr_PM o M σ) o v1 v2 = (kb_PM_slopes_0 N σ v1 v2).map (wq_PM o M) := by
  unfold jb_PM_slopes_0 kb_PM_slopes_0
  try rw [wo_PM]
  try rw [lf_PM_reckon]
  refine km_call (fun r2 s2 => ?_)
  exact lb_PM_slopes_7 o M N N _ _ _ _
theorem lf_PM_slopes (o : Nat) (M : mv_M) (N : Nat) (σ : kS) (v1 : Int32) (v2 : Int32) : jf_PM_slopes N (wr_PM o M σ) o v1 v2 = (kf_PM_slopes N σ v1 v2).map (wq_PM o M) := lb_PM_slopes_0 o M N σ v1 v2
/-! ===== PlainLearnerModel.slope(IIII)J ===== -/
def kb_PM_slope_47 (N : Nat) (σ : kS) : Option (Int64 × kS) :=
  some ((-1099511627776), σ)
def kb_PM_slope_0 (N : Nat) (σ : kS) (v1 : Int32) (v2 : Int32) (v3 : Int32) (v4 : Int32) : Option (Int64 × kS) :=
  kk_call (kf_PM_isNode N σ v1) fun r2 s2 =>
  if r2 = 0 then (kb_PM_slope_47 N s2) else
  Option.bind (kf_PM_isIn N v2.toInt64 0 v1.toInt64) fun r13 =>
  if r13 = 0 then (kb_PM_slope_47 N s2) else
  kk_call (kf_PM_cells N s2 v2) fun r24 s24 =>
  Option.bind (kf_PM_isIn N v3.toInt64 0 ((r24 - 1).toInt64)) fun r30 =>
  if r30 = 0 then (kb_PM_slope_47 N s24) else
  Option.bind (kf_PM_isIn N v4.toInt64 0 1) fun r41 =>
  if r41 = 0 then (kb_PM_slope_47 N s24) else
  kk_call (kf_PM_slopes N s24 v1 v2) fun r54 s54 =>
  Option.bind (mj_tabL (s54.2.2.2 13) 3200 ((64 * v2) + v3)) fun x68 =>
  kk_let (kL s54 0 x68) fun s69 =>
  Option.bind (mj_tabL (s69.2.2.2 14) 3200 ((64 * v2) + v3)) fun x83 =>
  kk_let (kL s69 1 x83) fun s84 =>
  kk_call (kf_PM_told N s84 v4) fun r90 s90 =>
  some (r90, s90)
def kf_PM_slope (N : Nat) (σ : kS) (v1 : Int32) (v2 : Int32) (v3 : Int32) (v4 : Int32) : Option (Int64 × kS) := kb_PM_slope_0 N σ v1 v2 v3 v4
set_option maxHeartbeats 4000000 in
theorem lb_PM_slope_47 (o : Nat) (M : mv_M) (N : Nat)  (σ : kS) : jb_PM_slope_47 N (wr_PM o M σ) = (kb_PM_slope_47 N σ).map (wq_PM o M) := by
  unfold jb_PM_slope_47 kb_PM_slope_47
  rfl
set_option maxHeartbeats 4000000 in
theorem lb_PM_slope_0 (o : Nat) (M : mv_M) (N : Nat)  (σ : kS) (v1 : Int32) (v2 : Int32) (v3 : Int32) (v4 : Int32) : jb_PM_slope_0 N (wr_PM o M σ) o v1 v2 v3 v4 = (kb_PM_slope_0 N σ v1 v2 v3 v4).map (wq_PM o M) := by
  unfold jb_PM_slope_0 kb_PM_slope_0
  try rw [wo_PM]
  try rw [lf_PM_isNode]
  refine km_call (fun r2 s2 => ?_)
  refine km_ite (fun _ => ?_) (fun _ => ?_)
  · exact lb_PM_slope_47 o M N _
  · try rw [lf_PM_isIn]
    refine km_callP (fun r13 => ?_)
    refine km_ite (fun _ => ?_) (fun _ => ?_)
    · exact lb_PM_slope_47 o M N _
    · try rw [wo_PM]
      try rw [lf_PM_cells]
      refine km_call (fun r24 s24 => ?_)
      try rw [lf_PM_isIn]
      refine km_callP (fun r30 => ?_)
      refine km_ite (fun _ => ?_) (fun _ => ?_)
      · exact lb_PM_slope_47 o M N _
      · try rw [lf_PM_isIn]
        refine km_callP (fun r41 => ?_)
        refine km_ite (fun _ => ?_) (fun _ => ?_)
        · exact lb_PM_slope_47 o M N _
        · try rw [wo_PM]
          try rw [lf_PM_slopes]
          refine km_call (fun r54 s54 => ?_)
          first | rw [wg_PM_13, Option.bind_some] | rw [Option.bind_some]
          rw [Option.bind_some]
          try rw [wl_PM_13]
          refine km_bind (fun x68 => ?_)
          rw [wp_PM_0, Option.bind_some]
          refine km_let ?_
          first | rw [wg_PM_14, Option.bind_some] | rw [Option.bind_some]
          rw [Option.bind_some]
          try rw [wl_PM_14]
          refine km_bind (fun x83 => ?_)
          rw [wp_PM_1, Option.bind_some]
          refine km_let ?_
          try rw [wo_PM]
          try rw [lf_PM_told]
          refine km_call (fun r90 s90 => ?_)
          rfl
theorem lf_PM_slope (o : Nat) (M : mv_M) (N : Nat) (σ : kS) (v1 : Int32) (v2 : Int32) (v3 : Int32) (v4 : Int32) : jf_PM_slope N (wr_PM o M σ) o v1 v2 v3 v4 = (kf_PM_slope N σ v1 v2 v3 v4).map (wq_PM o M) := lb_PM_slope_0 o M N σ v1 v2 v3 v4
/-! ===== PlainLearnerModel.toWay(IJ)V ===== -/
def kb_PM_toWay_32 (N : Nat) (σ : kS) : Option (Unit × kS) :=
  some ((), σ)
def kb_PM_toWay_0 (N : Nat) (σ : kS) (v1 : Int32) (v2 : Int64) : Option (Unit × kS) :=
  Option.bind (mj_tabL (σ.2.2.2 17) 50 v1) fun x6 =>
  mj_gd v1 50 <| kk_let (kB σ 17 v1.toNatClampNeg (x6 + v2)) fun s9 =>
  Option.bind (mj_tabL (s9.2.2.2 17) 50 v1) fun x15 =>
  if (lg_cmp x15 1000000000000000000) ≤ 0 then (kb_PM_toWay_32 N s9) else
  mj_gd v1 50 <| kk_let (kB s9 17 v1.toNatClampNeg 1000000000000000000) fun s31 =>
  kb_PM_toWay_32 N s31
def kf_PM_toWay (N : Nat) (σ : kS) (v1 : Int32) (v2 : Int64) : Option (Unit × kS) := kb_PM_toWay_0 N σ v1 v2
set_option maxHeartbeats 4000000 in
theorem lb_PM_toWay_32 (o : Nat) (M : mv_M) (N : Nat)  (σ : kS) : jb_PM_toWay_32 N (wr_PM o M σ) = (kb_PM_toWay_32 N σ).map (wq_PM o M) := by
  unfold jb_PM_toWay_32 kb_PM_toWay_32
  rfl
set_option maxHeartbeats 4000000 in
theorem lb_PM_toWay_0 (o : Nat) (M : mv_M) (N : Nat)  (σ : kS) (v1 : Int32) (v2 : Int64) : jb_PM_toWay_0 N (wr_PM o M σ) o v1 v2 = (kb_PM_toWay_0 N σ v1 v2).map (wq_PM o M) := by
  unfold jb_PM_toWay_0 kb_PM_toWay_0
  first | rw [wg_PM_17, Option.bind_some] | rw [Option.bind_some]
  rw [Option.bind_some]
  try rw [wl_PM_17]
  refine km_bind (fun x6 => ?_)
  rw [wx_PM_17]
  refine km_gd (fun _ => ?_)
  refine km_let ?_
  first | rw [wg_PM_17, Option.bind_some] | rw [Option.bind_some]
  rw [Option.bind_some]
  try rw [wl_PM_17]
  refine km_bind (fun x15 => ?_)
  refine km_ite (fun _ => ?_) (fun _ => ?_)
  · exact lb_PM_toWay_32 o M N _
  · first | rw [wg_PM_17, Option.bind_some] | rw [Option.bind_some]
    rw [Option.bind_some]
    rw [wx_PM_17]
    refine km_gd (fun _ => ?_)
    refine km_let ?_
    exact lb_PM_toWay_32 o M N _
theorem lf_PM_toWay (o : Nat) (M : mv_M) (N : Nat) (σ : kS) (v1 : Int32) (v2 : Int64) : jf_PM_toWay N (wr_PM o M σ) o v1 v2 = (kf_PM_toWay N σ v1 v2).map (wq_PM o M) := lb_PM_toWay_0 o M N σ v1 v2
