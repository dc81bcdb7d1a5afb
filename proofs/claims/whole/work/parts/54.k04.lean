/-! ===== PlainLearnerModel.game(I)I ===== -/
def kb_PM_game_21 (N : Nat) : Nat → kS → Int32 → Option (Int32 × kS)
  | 0, _, _ => none
  | n + 1, σ, v2 =>
    if 256 ≤ v2 then (some (0, σ)) else
    mj_gd v2 256 <| kk_let (kA σ 27 v2.toNatClampNeg 0) fun s34 =>
    kb_PM_game_21 N n s34 (v2 + 1)
def kb_PM_game_0 (N : Nat) (σ : kS) (v1 : Int32) : Option (Int32 × kS) :=
  Option.bind (kf_PM_isIn N v1.toInt64 0 8) fun r6 =>
  if r6 = 0 then (some ((-1), σ)) else
  kk_let (kI σ 26 v1) fun s16 =>
  kb_PM_game_21 N N s16 0
def kf_PM_game (N : Nat) (σ : kS) (v1 : Int32) : Option (Int32 × kS) := kb_PM_game_0 N σ v1
set_option maxHeartbeats 4000000 in
theorem lb_PM_game_21 (o : Nat) (M : mv_M) (N : Nat) : ∀ (n : Nat) (σ : kS) (v2 : Int32), jb_PM_game_21 N n (wr_PM o M σ) o v2 = (kb_PM_game_21 N n σ v2).map (wq_PM o M) := by
  intro n
  induction n with
  | zero => intros; rfl
  | succ n ih =>
    intro σ v2
    rw [jb_PM_game_21, kb_PM_game_21]
    refine km_ite (fun _ => ?_) (fun _ => ?_)
    · rfl
    · first | rw [wg_PM_27, Option.bind_some] | rw [Option.bind_some]
      rw [Option.bind_some]
      rw [wx_PM_27]
      refine km_gd (fun _ => ?_)
      refine km_let ?_
      skip
      exact ih _ _
set_option maxHeartbeats 4000000 in
theorem lb_PM_game_0 (o : Nat) (M : mv_M) (N : Nat)  (σ : kS) (v1 : Int32) : jb_PM_game_0 N (wr_PM o M σ) o v1 = (kb_PM_game_0 N σ v1).map (wq_PM o M) := by
  unfold jb_PM_game_0 kb_PM_game_0
  try rw [lf_PM_isIn]
  refine km_callP (fun r6 => ?_)
  refine km_ite (fun _ => ?_) (fun _ => ?_)
  · rfl
  · rw [wp_PM_26, Option.bind_some]
    refine km_let ?_
    exact lb_PM_game_21 o M N N _ _
theorem lf_PM_game (o : Nat) (M : mv_M) (N : Nat) (σ : kS) (v1 : Int32) : jf_PM_game N (wr_PM o M σ) o v1 = (kf_PM_game N σ v1).map (wq_PM o M) := lb_PM_game_0 o M N σ v1
/-! ===== PlainLearnerModel.worth(II)I ===== -/
def kb_PM_worth_32 (N : Nat) (σ : kS) : Option (Int32 × kS) :=
  some ((-1), σ)
def kb_PM_worth_0 (N : Nat) (σ : kS) (v1 : Int32) (v2 : Int32) : Option (Int32 × kS) :=
  Option.bind (kf_PM_isIn N v1.toInt64 1 ((((1 : Int32) <<< ((σ.1 26) &&& 31)) - 1).toInt64)) fun r12 =>
  if r12 = 0 then (kb_PM_worth_32 N σ) else
  Option.bind (kf_PM_isIn N v2.toInt64 (-10000) 10000) fun r26 =>
  if r26 = 0 then (kb_PM_worth_32 N σ) else
  Option.bind (mj_tab (σ.2.2.1 27) 256 v1) fun x39 =>
  mj_gd v1 256 <| kk_let (kA σ 27 v1.toNatClampNeg v2) fun s47 =>
  some (x39, s47)
def kf_PM_worth (N : Nat) (σ : kS) (v1 : Int32) (v2 : Int32) : Option (Int32 × kS) := kb_PM_worth_0 N σ v1 v2
set_option maxHeartbeats 4000000 in
theorem lb_PM_worth_32 (o : Nat) (M : mv_M) (N : Nat)  (σ : kS) : jb_PM_worth_32 N (wr_PM o M σ) = (kb_PM_worth_32 N σ).map (wq_PM o M) := by
  unfold jb_PM_worth_32 kb_PM_worth_32
  rfl
set_option maxHeartbeats 4000000 in
theorem lb_PM_worth_0 (o : Nat) (M : mv_M) (N : Nat)  (σ : kS) (v1 : Int32) (v2 : Int32) : jb_PM_worth_0 N (wr_PM o M σ) o v1 v2 = (kb_PM_worth_0 N σ v1 v2).map (wq_PM o M) := by
  unfold jb_PM_worth_0 kb_PM_worth_0
  first | rw [wg_PM_26, Option.bind_some] | rw [Option.bind_some]
  try rw [lf_PM_isIn]
  refine km_callP (fun r12 => ?_)
  refine km_ite (fun _ => ?_) (fun _ => ?_)
  · exact lb_PM_worth_32 o M N _
  · try rw [lf_PM_isIn]
    refine km_callP (fun r26 => ?_)
    refine km_ite (fun _ => ?_) (fun _ => ?_)
    · exact lb_PM_worth_32 o M N _
    · first | rw [wg_PM_27, Option.bind_some] | rw [Option.bind_some]
      rw [Option.bind_some]
      try rw [wl_PM_27]
      refine km_bind (fun x39 => ?_)
      first | rw [wg_PM_27, Option.bind_some] | rw [Option.bind_some]
      rw [Option.bind_some]
      rw [wx_PM_27]
      refine km_gd (fun _ => ?_)
      refine km_let ?_
      skip
      rfl
theorem lf_PM_worth (o : Nat) (M : mv_M) (N : Nat) (σ : kS) (v1 : Int32) (v2 : Int32) : jf_PM_worth N (wr_PM o M σ) o v1 v2 = (kf_PM_worth N σ v1 v2).map (wq_PM o M) := lb_PM_worth_0 o M N σ v1 v2
/-! ===== PlainLearnerModel.share(II)J ===== -/
def kb_PM_share_26 (N : Nat) (σ : kS) : Option (Int64 × kS) :=
  some ((-1099511627776), σ)
def kb_PM_share_134 (N : Nat) (c35 : kS → Int32 → Int32 → Int64 → Int32 → Option (Int64 × kS)) (σ : kS) (v1 : Int32) (v2 : Int32) (v3 : Int64) (v5 : Int32) : Option (Int64 × kS) :=
  c35 σ v1 v2 v3 (v5 + 1)
def kb_PM_share_65 (N : Nat) (c35 : kS → Int32 → Int32 → Int64 → Int32 → Option (Int64 × kS)) : Nat → kS → Int32 → Int32 → Int64 → Int32 → Int32 → Int32 → Option (Int64 × kS)
  | 0, _, _, _, _, _, _, _ => none
  | n + 1, σ, v1, v2, v3, v5, v6, v7 =>
    if (σ.1 26) ≤ v7 then (Option.bind (kf_PM_orders N v6) fun r95 =>
    Option.bind (kf_PM_orders N (((σ.1 26) - v6) - 1)) fun r107 =>
    Option.bind (mj_tab (σ.2.2.1 27) 256 (v5 ||| ((1 : Int32) <<< (v1 &&& 31)))) fun x121 =>
    Option.bind (mj_tab (σ.2.2.1 27) 256 v5) fun x128 =>
    kb_PM_share_134 N c35 σ v1 v2 (v3 + ((r95 * r107) * (x121 - x128).toInt64)) v5) else
    kb_PM_share_65 N c35 n σ v1 v2 v3 v5 (v6 + ((v5 >>> (v7 &&& 31)) &&& 1)) (v7 + 1)
def kb_PM_share_35 (N : Nat) : Nat → kS → Int32 → Int32 → Int64 → Int32 → Option (Int64 × kS)
  | 0, _, _, _, _, _ => none
  | n + 1, σ, v1, v2, v3, v5 =>
    if ((1 : Int32) <<< ((σ.1 26) &&& 31)) ≤ v5 then (Option.bind (kf_PM_orders N (σ.1 26)) fun r146 =>
    kk_call (kf_PM_least N σ v3 r146) fun r149 s149 =>
    kk_call (kf_PM_told N s149 v2) fun r154 s154 =>
    some (r154, s154)) else
    if ((v5 >>> (v1 &&& 31)) &&& 1) = 1 then (kb_PM_share_134 N (kb_PM_share_35 N n) σ v1 v2 v3 v5) else
    kb_PM_share_65 N (kb_PM_share_35 N n) N σ v1 v2 v3 v5 0 0
def kb_PM_share_0 (N : Nat) (σ : kS) (v1 : Int32) (v2 : Int32) : Option (Int64 × kS) :=
  Option.bind (kf_PM_isIn N v1.toInt64 0 (((σ.1 26) - 1).toInt64)) fun r10 =>
  if r10 = 0 then (kb_PM_share_26 N σ) else
  Option.bind (kf_PM_isIn N v2.toInt64 0 1) fun r20 =>
  if r20 = 0 then (kb_PM_share_26 N σ) else
  kb_PM_share_35 N N σ v1 v2 0 0
def kf_PM_share (N : Nat) (σ : kS) (v1 : Int32) (v2 : Int32) : Option (Int64 × kS) := kb_PM_share_0 N σ v1 v2
set_option maxHeartbeats 4000000 in
theorem lb_PM_share_26 (o : Nat) (M : mv_M) (N : Nat)  (σ : kS) : jb_PM_share_26 N (wr_PM o M σ) = (kb_PM_share_26 N σ).map (wq_PM o M) := by
  unfold jb_PM_share_26 kb_PM_share_26
  rfl
set_option maxHeartbeats 4000000 in
theorem lb_PM_share_134 (o : Nat) (M : mv_M) (N : Nat) (k35 : mv_M → Nat → Int32 → Int32 → Int64 → Int32 → Option (Int64 × mv_M)) (c35 : kS → Int32 → Int32 → Int64 → Int32 → Option (Int64 × kS)) (hc35 : ∀ (σ : kS) (v1 : Int32) (v2 : Int32) (v3 : Int64) (v5 : Int32), k35 (wr_PM o M σ) o v1 v2 v3 v5 = (c35 σ v1 v2 v3 v5).map (wq_PM o M))  (σ : kS) (v1 : Int32) (v2 : Int32) (v3 : Int64) (v5 : Int32) : jb_PM_share_134 N k35 (wr_PM o M σ) o v1 v2 v3 v5 = (kb_PM_share_134 N c35 σ v1 v2 v3 v5).map (wq_PM o M) := by
  unfold jb_PM_share_134 kb_PM_share_134
  exact hc35 _ _ _ _ _
set_option maxHeartbeats 4000000 in
theorem lb_PM_share_65 (o : Nat) (M : mv_M) (N : Nat) (k35 : mv_M → Nat → Int32 → Int32 → Int64 → Int32 → Option (Int64 × mv_M)) (c35 : kS → Int32 → Int32 → Int64 → Int32 → Option (Int64 × kS)) (hc35 : ∀ (σ : kS) (v1 : Int32) (v2 : Int32) (v3 : Int64) (v5 : Int32), k35 (wr_PM o M σ) o v1 v2 v3 v5 = (c35 σ v1 v2 v3 v5).map (wq_PM o M)) : ∀ (n : Nat) (σ : kS) (v1 : Int32) (v2 : Int32) (v3 : Int64) (v5 : Int32) (v6 : Int32) (v7 : Int32), jb_PM_share_65 N k35 n (wr_PM o M σ) o v1 v2 v3 v5 v6 v7 = (kb_PM_share_65 N c35 n σ v1 v2 v3 v5 v6 v7).map (wq_PM o M) := by
  intro n
  induction n with
  | zero => intros; rfl
  | succ n ih =>
    intro σ v1 v2 v3 v5 v6 v7
    rw [jb_PM_share_65, kb_PM_share_65]
    first | rw [wg_PM_26, Option.bind_some] | rw [Option.bind_some]
    refine km_ite (fun _ => ?_) (fun _ => ?_)
    · try rw [lf_PM_orders]
      refine km_callP (fun r95 => ?_)
      first | rw [wg_PM_26, Option.bind_some] | rw [Option.bind_some]
      try rw [lf_PM_orders]
      refine km_callP (fun r107 => ?_)
      first | rw [wg_PM_27, Option.bind_some] | rw [Option.bind_some]
      rw [Option.bind_some]
      try rw [wl_PM_27]
      refine km_bind (fun x121 => ?_)
      first | rw [wg_PM_27, Option.bind_some] | rw [Option.bind_some]
      rw [Option.bind_some]
      try rw [wl_PM_27]
      refine km_bind (fun x128 => ?_)
      exact lb_PM_share_134 o M N _ _ hc35 _ _ _ _ _
    · exact ih _ _ _ _ _ _ _
set_option maxHeartbeats 4000000 in
theorem lb_PM_share_35 (o : Nat) (M : mv_M) (N : Nat) : ∀ (n : Nat) (σ : kS) (v1 : Int32) (v2 : Int32) (v3 : Int64) (v5 : Int32), jb_PM_share_35 N n (wr_PM o M σ) o v1 v2 v3 v5 = (kb_PM_share_35 N n σ v1 v2 v3 v5).map (wq_PM o M) := by
  intro n
  induction n with
  | zero => intros; rfl
  | succ n ih =>
    intro σ v1 v2 v3 v5
    rw [jb_PM_share_35, kb_PM_share_35]
    first | rw [wg_PM_26, Option.bind_some] | rw [Option.bind_some]
    refine km_ite (fun _ => ?_) (fun _ => ?_)
    · first | rw [wg_PM_26, Option.bind_some] | rw [Option.bind_some]
      try rw [lf_PM_orders]
      refine km_callP (fun r146 => ?_)
      try rw [wo_PM]
      try rw [lf_PM_least]
      refine km_call (fun r149 s149 => ?_)
      try rw [wo_PM]
      try rw [lf_PM_told]
      refine km_call (fun r154 s154 => ?_)
      rfl
    · refine km_ite (fun _ => ?_) (fun _ => ?_)
      · exact lb_PM_share_134 o M N _ _ ih _ _ _ _ _
      · exact lb_PM_share_65 o M N _ _ ih N _ _ _ _ _ _ _
set_option maxHeartbeats 4000000 in
theorem lb_PM_share_0 (o : Nat) (M : mv_M) (N : Nat)  (σ : kS) (v1 : Int32) (v2 : Int32) : jb_PM_share_0 N (wr_PM o M σ) o v1 v2 = (kb_PM_share_0 N σ v1 v2).map (wq_PM o M) := by
  unfold jb_PM_share_0 kb_PM_share_0
  first | rw [wg_PM_26, Option.bind_some] | rw [Option.bind_some]
  try rw [lf_PM_isIn]
  refine km_callP (fun r10 => ?_)
  refine km_ite (fun _ => ?_) (fun _ => ?_)
  · exact lb_PM_share_26 o M N _
  · try rw [lf_PM_isIn]
    refine km_callP (fun r20 => ?_)
    refine km_ite (fun _ => ?_) (fun _ => ?_)
    · exact lb_PM_share_26 o M N _
    · exact lb_PM_share_35 o M N N _ _ _ _ _
theorem lf_PM_share (o : Nat) (M : mv_M) (N : Nat) (σ : kS) (v1 : Int32) (v2 : Int32) : jf_PM_share N (wr_PM o M σ) o v1 v2 = (kf_PM_share N σ v1 v2).map (wq_PM o M) := lb_PM_share_0 o M N σ v1 v2
/-! ===== PlainLearnerModel.pair(IZ)I ===== -/
def kb_PM_pair_0 (N : Nat) (σ : kS) (v1 : Int32) (v2 : Int32) : Option (Int32 × kS) :=
  if (σ.1 28) = 40 then (some ((-3), σ)) else
  mj_gd (σ.1 28) 40 <| kk_let (kA σ 29 (σ.1 28).toNatClampNeg v1) fun s21 =>
  mj_gd (s21.1 28) 40 <| kk_let (kA s21 30 (s21.1 28).toNatClampNeg (vp_nar .boolean v2)) fun s31 =>
  kk_let (kI s31 28 ((s31.1 28) + 1)) fun s40 =>
  some (((s31.1 28) + 1), s40)
def kf_PM_pair (N : Nat) (σ : kS) (v1 : Int32) (v2 : Int32) : Option (Int32 × kS) := kb_PM_pair_0 N σ v1 v2
set_option maxHeartbeats 4000000 in
theorem lb_PM_pair_0 (o : Nat) (M : mv_M) (N : Nat)  (σ : kS) (v1 : Int32) (v2 : Int32) : jb_PM_pair_0 N (wr_PM o M σ) o v1 v2 = (kb_PM_pair_0 N σ v1 v2).map (wq_PM o M) := by
  unfold jb_PM_pair_0 kb_PM_pair_0
  first | rw [wg_PM_28, Option.bind_some] | rw [Option.bind_some]
  refine km_ite (fun _ => ?_) (fun _ => ?_)
  · rfl
  · first | rw [wg_PM_29, Option.bind_some] | rw [Option.bind_some]
    first | rw [wg_PM_28, Option.bind_some] | rw [Option.bind_some]
    rw [Option.bind_some]
    rw [wx_PM_29]
    refine km_gd (fun _ => ?_)
    refine km_let ?_
    first | rw [wg_PM_30, Option.bind_some] | rw [Option.bind_some]
    first | rw [wg_PM_28, Option.bind_some] | rw [Option.bind_some]
    rw [Option.bind_some]
    rw [wx_PM_30]
    refine km_gd (fun _ => ?_)
    refine km_let ?_
    first | rw [wg_PM_28, Option.bind_some] | rw [Option.bind_some]
    rw [wp_PM_28, Option.bind_some]
    refine km_let ?_
    rfl
theorem lf_PM_pair (o : Nat) (M : mv_M) (N : Nat) (σ : kS) (v1 : Int32) (v2 : Int32) : jf_PM_pair N (wr_PM o M σ) o v1 v2 = (kf_PM_pair N σ v1 v2).map (wq_PM o M) := lb_PM_pair_0 o M N σ v1 v2
/-! ===== PlainLearnerModel.yes()I ===== -/
def kb_PM_yes_27 (N : Nat) (c4 : kS → Int32 → Int32 → Option (Int32 × kS)) (σ : kS) (v2 : Int32) (s0 : Int32) (s1 : Int32) : Option (Int32 × kS) :=
  c4 σ (s0 + s1) (v2 + 1)
def kb_PM_yes_4 (N : Nat) : Nat → kS → Int32 → Int32 → Option (Int32 × kS)
  | 0, _, _, _ => none
  | n + 1, σ, v1, v2 =>
    if (σ.1 28) ≤ v2 then (some (v1, σ)) else
    Option.bind (mj_tab (σ.2.2.1 30) 40 v2) fun x18 =>
    if x18 = 0 then (kb_PM_yes_27 N (kb_PM_yes_4 N n) σ v2 v1 0) else
    kb_PM_yes_27 N (kb_PM_yes_4 N n) σ v2 v1 1
def kb_PM_yes_0 (N : Nat) (σ : kS) : Option (Int32 × kS) :=
  kb_PM_yes_4 N N σ 0 0
def kf_PM_yes (N : Nat) (σ : kS) : Option (Int32 × kS) := kb_PM_yes_0 N σ
set_option maxHeartbeats 4000000 in
theorem lb_PM_yes_27 (o : Nat) (M : mv_M) (N : Nat) (k4 : mv_M → Nat → Int32 → Int32 → Option (Int32 × mv_M)) (c4 : kS → Int32 → Int32 → Option (Int32 × kS)) (hc4 : ∀ (σ : kS) (v1 : Int32) (v2 : Int32), k4 (wr_PM o M σ) o v1 v2 = (c4 σ v1 v2).map (wq_PM o M))  (σ : kS) (v2 : Int32) (s0 : Int32) (s1 : Int32) : jb_PM_yes_27 N k4 (wr_PM o M σ) o v2 s0 s1 = (kb_PM_yes_27 N c4 σ v2 s0 s1).map (wq_PM o M) := by
  unfold jb_PM_yes_27 kb_PM_yes_27
  exact hc4 _ _ _
set_option maxHeartbeats 4000000 in
theorem lb_PM_yes_4 (o : Nat) (M : mv_M) (N : Nat) : ∀ (n : Nat) (σ : kS) (v1 : Int32) (v2 : Int32), jb_PM_yes_4 N n (wr_PM o M σ) o v1 v2 = (kb_PM_yes_4 N n σ v1 v2).map (wq_PM o M) := by
  intro n
  induction n with
  | zero => intros; rfl
  | succ n ih =>
    intro σ v1 v2
    rw [jb_PM_yes_4, kb_PM_yes_4]
    first | rw [wg_PM_28, Option.bind_some] | rw [Option.bind_some]
    refine km_ite (fun _ => ?_) (fun _ => ?_)
    · rfl
    · first | rw [wg_PM_30, Option.bind_some] | rw [Option.bind_some]
      rw [Option.bind_some]
      try rw [wl_PM_30]
      refine km_bind (fun x18 => ?_)
      refine km_ite (fun _ => ?_) (fun _ => ?_)
      · exact lb_PM_yes_27 o M N _ _ ih _ _ _ _
      · exact lb_PM_yes_27 o M N _ _ ih _ _ _ _
set_option maxHeartbeats 4000000 in
theorem lb_PM_yes_0 (o : Nat) (M : mv_M) (N : Nat)  (σ : kS) : jb_PM_yes_0 N (wr_PM o M σ) o = (kb_PM_yes_0 N σ).map (wq_PM o M) := by
  unfold jb_PM_yes_0 kb_PM_yes_0
  exact lb_PM_yes_4 o M N N _ _ _
theorem lf_PM_yes (o : Nat) (M : mv_M) (N : Nat) (σ : kS) : jf_PM_yes N (wr_PM o M σ) o = (kf_PM_yes N σ).map (wq_PM o M) := lb_PM_yes_0 o M N σ
/-! ===== PlainLearnerModel.sides()V ===== -/
def kb_PM_sides_89 (N : Nat) (c4 : kS → Int64 → Int32 → Option (Unit × kS)) (c15 : kS → Int64 → Int32 → Int32 → Option (Unit × kS)) (σ : kS) (v1 : Int64) (v3 : Int32) (v4 : Int32) : Option (Unit × kS) :=
  c15 σ v1 v3 (v4 + 1)
def kb_PM_sides_87 (N : Nat) (c4 : kS → Int64 → Int32 → Option (Unit × kS)) (c15 : kS → Int64 → Int32 → Int32 → Option (Unit × kS)) (σ : kS) (v3 : Int32) (v4 : Int32) (s0 : Int64) (s1 : Int64) : Option (Unit × kS) :=
  kb_PM_sides_89 N c4 c15 σ (s0 + s1) v3 v4
def kb_PM_sides_15 (N : Nat) (c4 : kS → Int64 → Int32 → Option (Unit × kS)) : Nat → kS → Int64 → Int32 → Int32 → Option (Unit × kS)
  | 0, _, _, _, _ => none
  | n + 1, σ, v1, v3, v4 =>
    if (σ.1 28) ≤ v4 then (c4 σ v1 (v3 + 1)) else
    Option.bind (mj_tab (σ.2.2.1 30) 40 v3) fun x29 =>
    if x29 = 0 then (kb_PM_sides_89 N c4 (kb_PM_sides_15 N c4 n) σ v1 v3 v4) else
    Option.bind (mj_tab (σ.2.2.1 30) 40 v4) fun x39 =>
    if x39 = 0 then (Option.bind (mj_tab (σ.2.2.1 29) 40 v3) fun x49 =>
    Option.bind (mj_tab (σ.2.2.1 29) 40 v4) fun x56 =>
    if x49 ≤ x56 then (Option.bind (mj_tab (σ.2.2.1 29) 40 v3) fun x71 =>
    Option.bind (mj_tab (σ.2.2.1 29) 40 v4) fun x78 =>
    if x71 = x78 then (kb_PM_sides_87 N c4 (kb_PM_sides_15 N c4 n) σ v3 v4 v1 1) else
    kb_PM_sides_87 N c4 (kb_PM_sides_15 N c4 n) σ v3 v4 v1 0) else
    kb_PM_sides_87 N c4 (kb_PM_sides_15 N c4 n) σ v3 v4 v1 2) else
    kb_PM_sides_89 N c4 (kb_PM_sides_15 N c4 n) σ v1 v3 v4
def kb_PM_sides_4 (N : Nat) : Nat → kS → Int64 → Int32 → Option (Unit × kS)
  | 0, _, _, _ => none
  | n + 1, σ, v1, v3 =>
    if (σ.1 28) ≤ v3 then (kk_call (kf_PM_yes N σ ) fun r107 s107 =>
    kk_call (kf_PM_yes N s107 ) fun r117 s117 =>
    kk_call (kf_PM_least N s117 v1 ((2 * r107.toInt64) * ((s107.1 28) - r117).toInt64)) fun r123 s123 =>
    some ((), s123)) else
    kb_PM_sides_15 N (kb_PM_sides_4 N n) N σ v1 v3 0
def kb_PM_sides_0 (N : Nat) (σ : kS) : Option (Unit × kS) :=
  kb_PM_sides_4 N N σ 0 0
def kf_PM_sides (N : Nat) (σ : kS) : Option (Unit × kS) := kb_PM_sides_0 N σ
set_option maxHeartbeats 4000000 in
theorem lb_PM_sides_89 (o : Nat) (M : mv_M) (N : Nat) (k4 : mv_M → Nat → Int64 → Int32 → Option (Unit × mv_M)) (c4 : kS → Int64 → Int32 → Option (Unit × kS)) (k15 : mv_M → Nat → Int64 → Int32 → Int32 → Option (Unit × mv_M)) (c15 : kS → Int64 → Int32 → Int32 → Option (Unit × kS)) (hc4 : ∀ (σ : kS) (v1 : Int64) (v3 : Int32), k4 (wr_PM o M σ) o v1 v3 = (c4 σ v1 v3).map (wq_PM o M)) (hc15 : ∀ (σ : kS) (v1 : Int64) (v3 : Int32) (v4 : Int32), k15 (wr_PM o M σ) o v1 v3 v4 = (c15 σ v1 v3 v4).map (wq_PM o M))  (σ : kS) (v1 : Int64) (v3 : Int32) (v4 : Int32) : jb_PM_sides_89 N k4 k15 (wr_PM o M σ) o v1 v3 v4 = (kb_PM_sides_89 N c4 c15 σ v1 v3 v4).map (wq_PM o M) := by
  unfold jb_PM_sides_89 kb_PM_sides_89
  exact hc15 _ _ _ _
set_option maxHeartbeats 4000000 in
theorem lb_PM_sides_87 (o : Nat) (M : mv_M) (N : Nat) (k4 : mv_M → Nat → Int64 → Int32 → Option (Unit × mv_M)) (c4 : kS → Int64 → Int32 → Option (Unit × kS)) (k15 : mv_M → Nat → Int64 → Int32 → Int32 → Option (Unit × mv_M)) (c15 : kS → Int64 → Int32 → Int32 → Option (Unit × kS)) (hc4 : ∀ (σ : kS) (v1 : Int64) (v3 : Int32), k4 (wr_PM o M σ) o v1 v3 = (c4 σ v1 v3).map (wq_PM o M)) (hc15 : ∀ (σ : kS) (v1 : Int64) (v3 : Int32) (v4 : Int32), k15 (wr_PM o M σ) o v1 v3 v4 = (c15 σ v1 v3 v4).map (wq_PM o M))  (σ : kS) (v3 : Int32) (v4 : Int32) (s0 : Int64) (s1 : Int64) : jb_PM_sides_87 N k4 k15 (wr_PM o M σ) o v3 v4 s0 s1 = (kb_PM_sides_87 N c4 c15 σ v3 v4 s0 s1).map (wq_PM o M) := by
  unfold jb_PM_sides_87 kb_PM_sides_87
  exact lb_PM_sides_89 o M N _ _ _ _ hc4 hc15 _ _ _ _
set_option maxHeartbeats 4000000 in
theorem lb_PM_sides_15 (o : Nat) (M : mv_M) (N : Nat) (k4 : mv_M → Nat → Int64 → Int32 → Option (Unit × mv_M)) (c4 : kS → Int64 → Int32 → Option (Unit × kS)) (hc4 : ∀ (σ : kS) (v1 : Int64) (v3 : Int32), k4 (wr_PM o M σ) o v1 v3 = (c4 σ v1 v3).map (wq_PM o M)) : ∀ (n : Nat) (σ : kS) (v1 : Int64) (v3 : Int32) (v4 : Int32), jb_PM_sides_15 N k4 n (wr_PM o M σ) o v1 v3 v4 = (kb_PM_sides_15 N c4 n σ v1 v3 v4).map (wq_PM o M) := by
  intro n
  induction n with
  | zero => intros; rfl
  | succ n ih =>
    intro σ v1 v3 v4
    rw [jb_PM_sides_15, kb_PM_sides_15]
    first | rw [wg_PM_28, Option.bind_some] | rw [Option.bind_some]
    refine km_ite (fun _ => ?_) (fun _ => ?_)
    · exact hc4 _ _ _
    · first | rw [wg_PM_30, Option.bind_some] | rw [Option.bind_some]
      rw [Option.bind_some]
      try rw [wl_PM_30]
      refine km_bind (fun x29 => ?_)
      refine km_ite (fun _ => ?_) (fun _ => ?_)
      · exact lb_PM_sides_89 o M N _ _ _ _ hc4 ih _ _ _ _
      · first | rw [wg_PM_30, Option.bind_some] | rw [Option.bind_some]
        rw [Option.bind_some]
        try rw [wl_PM_30]
        refine km_bind (fun x39 => ?_)
        refine km_ite (fun _ => ?_) (fun _ => ?_)
        · first | rw [wg_PM_29, Option.bind_some] | rw [Option.bind_some]
          rw [Option.bind_some]
          try rw [wl_PM_29]
          refine km_bind (fun x49 => ?_)
          first | rw [wg_PM_29, Option.bind_some] | rw [Option.bind_some]
          rw [Option.bind_some]
          try rw [wl_PM_29]
          refine km_bind (fun x56 => ?_)
          refine km_ite (fun _ => ?_) (fun _ => ?_)
          · first | rw [wg_PM_29, Option.bind_some] | rw [Option.bind_some]
            rw [Option.bind_some]
            try rw [wl_PM_29]
            refine km_bind (fun x71 => ?_)
            first | rw [wg_PM_29, Option.bind_some] | rw [Option.bind_some]
            rw [Option.bind_some]
            try rw [wl_PM_29]
            refine km_bind (fun x78 => ?_)
            refine km_ite (fun _ => ?_) (fun _ => ?_)
            · exact lb_PM_sides_87 o M N _ _ _ _ hc4 ih _ _ _ _ _
            · exact lb_PM_sides_87 o M N _ _ _ _ hc4 ih _ _ _ _ _
          · exact lb_PM_sides_87 o M N _ _ _ _ hc4 ih _ _ _ _ _
        · exact lb_PM_sides_89 o M N _ _ _ _ hc4 ih _ _ _ _
set_option maxHeartbeats 4000000 in
theorem lb_PM_sides_4 (o : Nat) (M : mv_M) (N : Nat) : ∀ (n : Nat) (σ : kS) (v1 : Int64) (v3 : Int32), jb_PM_sides_4 N n (wr_PM o M σ) o v1 v3 = (kb_PM_sides_4 N n σ v1 v3).map (wq_PM o M) := by
  intro n
  induction n with
  | zero => intros; rfl
  | succ n ih =>
    intro σ v1 v3
    rw [jb_PM_sides_4, kb_PM_sides_4]
    first | rw [wg_PM_28, Option.bind_some] | rw [Option.bind_some]
    refine km_ite (fun _ => ?_) (fun _ => ?_)
    · try rw [wo_PM]
      try rw [lf_PM_yes]
      refine km_call (fun r107 s107 => ?_)
      first | rw [wg_PM_28, Option.bind_some] | rw [Option.bind_some]
      try rw [wo_PM]
      try rw [lf_PM_yes]
      refine km_call (fun r117 s117 => ?_)
      try rw [wo_PM]
      try rw [lf_PM_least]
      refine km_call (fun r123 s123 => ?_)
      rfl
    · exact lb_PM_sides_15 o M N _ _ ih N _ _ _ _
set_option maxHeartbeats 4000000 in
theorem lb_PM_sides_0 (o : Nat) (M : mv_M) (N : Nat)  (σ : kS) : jb_PM_sides_0 N (wr_PM o M σ) o = (kb_PM_sides_0 N σ).map (wq_PM o M) := by
  unfold jb_PM_sides_0 kb_PM_sides_0
  exact lb_PM_sides_4 o M N N _ _ _
theorem lf_PM_sides (o : Nat) (M : mv_M) (N : Nat) (σ : kS) : jf_PM_sides N (wr_PM o M σ) o = (kf_PM_sides N σ).map (wq_PM o M) := lb_PM_sides_0 o M N σ
/-! ===== PlainLearnerModel.bounds(Z)V ===== -/
def kb_PM_bounds_218 (N : Nat) (c8 : kS → Int32 → Int64 → Int64 → Int32 → Option (Unit × kS)) (σ : kS) (v1 : Int32) (v2 : Int64) (v4 : Int64) (v6 : Int32) : Option (Unit × kS) :=
  c8 σ v1 v2 v4 (v6 + 1)
def kb_PM_bounds_207 (N : Nat) (c8 : kS → Int32 → Int64 → Int64 → Int32 → Option (Unit × kS)) (σ : kS) (v1 : Int32) (v6 : Int32) : Option (Unit × kS) :=
  kb_PM_bounds_218 N c8 σ v1 (σ.2.1 0) (σ.2.1 1) v6
def kb_PM_bounds_178 (N : Nat) (c8 : kS → Int32 → Int64 → Int64 → Int32 → Option (Unit × kS)) (σ : kS) (v1 : Int32) (v2 : Int64) (v4 : Int64) (v6 : Int32) : Option (Unit × kS) :=
  if (lg_cmp (σ.2.1 1) 0) = 0 then (kb_PM_bounds_207 N c8 σ v1 v6) else
  Option.bind (kf_PM_isAbove N (σ.2.1 0) (σ.2.1 1) v2 v4) fun r198 =>
  if r198 = 0 then (kb_PM_bounds_218 N c8 σ v1 v2 v4 v6) else
  kb_PM_bounds_207 N c8 σ v1 v6
def kb_PM_bounds_108 (N : Nat) (c8 : kS → Int32 → Int64 → Int64 → Int32 → Option (Unit × kS)) (c26 : kS → Int32 → Int64 → Int64 → Int32 → Int32 → Int32 → Int32 → Option (Unit × kS)) (σ : kS) (v1 : Int32) (v2 : Int64) (v4 : Int64) (v6 : Int32) (v7 : Int32) (v9 : Int32) (s0 : Int32) (s1 : Int32) : Option (Unit × kS) :=
  c26 σ v1 v2 v4 v6 v7 (s0 + s1) (v9 + 1)
def kb_PM_bounds_107 (N : Nat) (c8 : kS → Int32 → Int64 → Int64 → Int32 → Option (Unit × kS)) (c26 : kS → Int32 → Int64 → Int64 → Int32 → Int32 → Int32 → Int32 → Option (Unit × kS)) (σ : kS) (v1 : Int32) (v2 : Int64) (v4 : Int64) (v6 : Int32) (v7 : Int32) (v9 : Int32) (s0 : Int32) : Option (Unit × kS) :=
  kb_PM_bounds_108 N c8 c26 σ v1 v2 v4 v6 v7 v9 s0 0
def kb_PM_bounds_83 (N : Nat) (c8 : kS → Int32 → Int64 → Int64 → Int32 → Option (Unit × kS)) (c26 : kS → Int32 → Int64 → Int64 → Int32 → Int32 → Int32 → Int32 → Option (Unit × kS)) (σ : kS) (v1 : Int32) (v2 : Int64) (v4 : Int64) (v6 : Int32) (v8 : Int32) (v9 : Int32) (v10 : Int32) (s0 : Int32) (s1 : Int32) : Option (Unit × kS) :=
  if v10 = 0 then (kb_PM_bounds_107 N c8 c26 σ v1 v2 v4 v6 (s0 + s1) v9 v8) else
  Option.bind (mj_tab (σ.2.2.1 30) 40 v9) fun x99 =>
  if x99 = 0 then (kb_PM_bounds_107 N c8 c26 σ v1 v2 v4 v6 (s0 + s1) v9 v8) else
  kb_PM_bounds_108 N c8 c26 σ v1 v2 v4 v6 (s0 + s1) v9 v8 1
def kb_PM_bounds_62 (N : Nat) (c8 : kS → Int32 → Int64 → Int64 → Int32 → Option (Unit × kS)) (c26 : kS → Int32 → Int64 → Int64 → Int32 → Int32 → Int32 → Int32 → Option (Unit × kS)) (σ : kS) (v1 : Int32) (v2 : Int64) (v4 : Int64) (v6 : Int32) (v7 : Int32) (v8 : Int32) (v9 : Int32) (s0 : Int32) : Option (Unit × kS) :=
  Option.bind (mj_tab (σ.2.2.1 30) 40 v9) fun x74 =>
  if s0 = x74 then (kb_PM_bounds_83 N c8 c26 σ v1 v2 v4 v6 v8 v9 s0 v7 1) else
  kb_PM_bounds_83 N c8 c26 σ v1 v2 v4 v6 v8 v9 s0 v7 0
def kb_PM_bounds_61 (N : Nat) (c8 : kS → Int32 → Int64 → Int64 → Int32 → Option (Unit × kS)) (c26 : kS → Int32 → Int64 → Int64 → Int32 → Int32 → Int32 → Int32 → Option (Unit × kS)) (σ : kS) (v1 : Int32) (v2 : Int64) (v4 : Int64) (v6 : Int32) (v7 : Int32) (v8 : Int32) (v9 : Int32) : Option (Unit × kS) :=
  kb_PM_bounds_62 N c8 c26 σ v1 v2 v4 v6 v7 v8 v9 0
def kb_PM_bounds_26 (N : Nat) (c8 : kS → Int32 → Int64 → Int64 → Int32 → Option (Unit × kS)) : Nat → kS → Int32 → Int64 → Int64 → Int32 → Int32 → Int32 → Int32 → Option (Unit × kS)
  | 0, _, _, _, _, _, _, _, _ => none
  | n + 1, σ, v1, v2, v4, v6, v7, v8, v9 =>
    if (σ.1 28) ≤ v9 then (if v1 = 0 then (if v8 = 0 then (kk_call (kf_PM_least N σ 0 1) fun r144 s144 =>
    kb_PM_bounds_178 N c8 s144 v1 v2 v4 v6) else
    kk_call (kf_PM_least N σ (2 * v8.toInt64) (((2 * v8.toInt64) + (σ.1 28).toInt64) - v7.toInt64)) fun r175 s175 =>
    kb_PM_bounds_178 N c8 s175 v1 v2 v4 v6) else
    kk_call (kf_PM_least N σ v7.toInt64 ((σ.1 28).toInt64)) fun r130 s130 =>
    kb_PM_bounds_178 N c8 s130 v1 v2 v4 v6) else
    if v6 < 0 then (kb_PM_bounds_61 N c8 (kb_PM_bounds_26 N c8 n) σ v1 v2 v4 v6 v7 v8 v9) else
    Option.bind (mj_tab (σ.2.2.1 29) 40 v9) fun x46 =>
    Option.bind (mj_tab (σ.2.2.1 29) 40 v6) fun x53 =>
    if x46 < x53 then (kb_PM_bounds_61 N c8 (kb_PM_bounds_26 N c8 n) σ v1 v2 v4 v6 v7 v8 v9) else
    kb_PM_bounds_62 N c8 (kb_PM_bounds_26 N c8 n) σ v1 v2 v4 v6 v7 v8 v9 1
def kb_PM_bounds_8 (N : Nat) : Nat → kS → Int32 → Int64 → Int64 → Int32 → Option (Unit × kS)
  | 0, _, _, _, _, _ => none
  | n + 1, σ, v1, v2, v4, v6 =>
    if (σ.1 28) ≤ v6 then (kk_let (kL σ 0 v2) fun s226 =>
    kk_let (kL s226 1 v4) fun s232 =>
    some ((), s232)) else
    kb_PM_bounds_26 N (kb_PM_bounds_8 N n) N σ v1 v2 v4 v6 0 0 0
def kb_PM_bounds_0 (N : Nat) (σ : kS) (v1 : Int32) : Option (Unit × kS) :=
  kb_PM_bounds_8 N N σ v1 0 1 (-1)
def kf_PM_bounds (N : Nat) (σ : kS) (v1 : Int32) : Option (Unit × kS) := kb_PM_bounds_0 N σ v1
set_option maxHeartbeats 4000000 in
theorem lb_PM_bounds_218 (o : Nat) (M : mv_M) (N : Nat) (k8 : mv_M → Nat → Int32 → Int64 → Int64 → Int32 → Option (Unit × mv_M)) (c8 : kS → Int32 → Int64 → Int64 → Int32 → Option (Unit × kS)) (hc8 : ∀ (σ : kS) (v1 : Int32) (v2 : Int64) (v4 : Int64) (v6 : Int32), k8 (wr_PM o M σ) o v1 v2 v4 v6 = (c8 σ v1 v2 v4 v6).map (wq_PM o M))  (σ : kS) (v1 : Int32) (v2 : Int64) (v4 : Int64) (v6 : Int32) : jb_PM_bounds_218 N k8 (wr_PM o M σ) o v1 v2 v4 v6 = (kb_PM_bounds_218 N c8 σ v1 v2 v4 v6).map (wq_PM o M) := by
  unfold jb_PM_bounds_218 kb_PM_bounds_218
  exact hc8 _ _ _ _ _
set_option maxHeartbeats 4000000 in
theorem lb_PM_bounds_207 (o : Nat) (M : mv_M) (N : Nat) (k8 : mv_M → Nat → Int32 → Int64 → Int64 → Int32 → Option (Unit × mv_M)) (c8 : kS → Int32 → Int64 → Int64 → Int32 → Option (Unit × kS)) (hc8 : ∀ (σ : kS) (v1 : Int32) (v2 : Int64) (v4 : Int64) (v6 : Int32), k8 (wr_PM o M σ) o v1 v2 v4 v6 = (c8 σ v1 v2 v4 v6).map (wq_PM o M))  (σ : kS) (v1 : Int32) (v6 : Int32) : jb_PM_bounds_207 N k8 (wr_PM o M σ) o v1 v6 = (kb_PM_bounds_207 N c8 σ v1 v6).map (wq_PM o M) := by
  unfold jb_PM_bounds_207 kb_PM_bounds_207
  first | rw [wg_PM_0, Option.bind_some] | rw [Option.bind_some]
  first | rw [wg_PM_1, Option.bind_some] | rw [Option.bind_some]
  exact lb_PM_bounds_218 o M N _ _ hc8 _ _ _ _ _
set_option maxHeartbeats 4000000 in
theorem lb_PM_bounds_178 (o : Nat) (M : mv_M) (N : Nat) (k8 : mv_M → Nat → Int32 → Int64 → Int64 → Int32 → Option (Unit × mv_M)) (c8 : kS → Int32 → Int64 → Int64 → Int32 → Option (Unit × kS)) (hc8 : ∀ (σ : kS) (v1 : Int32) (v2 : Int64) (v4 : Int64) (v6 : Int32), k8 (wr_PM o M σ) o v1 v2 v4 v6 = (c8 σ v1 v2 v4 v6).map (wq_PM o M))  (σ : kS) (v1 : Int32) (v2 : Int64) (v4 : Int64) (v6 : Int32) : jb_PM_bounds_178 N k8 (wr_PM o M σ) o v1 v2 v4 v6 = (kb_PM_bounds_178 N c8 σ v1 v2 v4 v6).map (wq_PM o M) := by
  unfold jb_PM_bounds_178 kb_PM_bounds_178
  first | rw [wg_PM_1, Option.bind_some] | rw [Option.bind_some]
  refine km_ite (fun _ => ?_) (fun _ => ?_)
  · exact lb_PM_bounds_207 o M N _ _ hc8 _ _ _
  · first | rw [wg_PM_0, Option.bind_some] | rw [Option.bind_some]
    first | rw [wg_PM_1, Option.bind_some] | rw [Option.bind_some]
    try rw [lf_PM_isAbove]
    refine km_callP (fun r198 => ?_)
    refine km_ite (fun _ => ?_) (fun _ => ?_)
    · exact lb_PM_bounds_218 o M N _ _ hc8 _ _ _ _ _
    · exact lb_PM_bounds_207 o M N _ _ hc8 _ _ _
set_option maxHeartbeats 4000000 in
theorem lb_PM_bounds_108 (o : Nat) (M : mv_M) (N : Nat) (k8 : mv_M → Nat → Int32 → Int64 → Int64 → Int32 → Option (Unit × mv_M)) (c8 : kS → Int32 → Int64 → Int64 → Int32 → Option (Unit × kS)) (k26 : mv_M → Nat → Int32 → Int64 → Int64 → Int32 → Int32 → Int32 → Int32 → Option (Unit × mv_M)) (c26 : kS → Int32 → Int64 → Int64 → Int32 → Int32 → Int32 → Int32 → Option (Unit × kS)) (hc8 : ∀ (σ : kS) (v1 : Int32) (v2 : Int64) (v4 : Int64) (v6 : Int32), k8 (wr_PM o M σ) o v1 v2 v4 v6 = (c8 σ v1 v2 v4 v6).map (wq_PM o M)) (hc26 : ∀ (σ : kS) (v1 : Int32) (v2 : Int64) (v4 : Int64) (v6 : Int32) (v7 : Int32) (v8 : Int32) (v9 : Int32), k26 (wr_PM o M σ) o v1 v2 v4 v6 v7 v8 v9 = (c26 σ v1 v2 v4 v6 v7 v8 v9).map (wq_PM o M))  (σ : kS) (v1 : Int32) (v2 : Int64) (v4 : Int64) (v6 : Int32) (v7 : Int32) (v9 : Int32) (s0 : Int32) (s1 : Int32) : jb_PM_bounds_108 N k8 k26 (wr_PM o M σ) o v1 v2 v4 v6 v7 v9 s0 s1 = (kb_PM_bounds_108 N c8 c26 σ v1 v2 v4 v6 v7 v9 s0 s1).map (wq_PM o M) := by
  unfold jb_PM_bounds_108 kb_PM_bounds_108
  exact hc26 _ _ _ _ _ _ _ _
set_option maxHeartbeats 4000000 in
theorem lb_PM_bounds_107 (o : Nat) (M : mv_M) (N : Nat) (k8 : mv_M → Nat → Int32 → Int64 → Int64 → Int32 → Option (Unit × mv_M)) (c8 : kS → Int32 → Int64 → Int64 → Int32 → Option (Unit × kS)) (k26 : mv_M → Nat → Int32 → Int64 → Int64 → Int32 → Int32 → Int32 → Int32 → Option (Unit × mv_M)) (c26 : kS → Int32 → Int64 → Int64 → Int32 → Int32 → Int32 → Int32 → Option (Unit × kS)) (hc8 : ∀ (σ : kS) (v1 : Int32) (v2 : Int64) (v4 : Int64) (v6 : Int32), k8 (wr_PM o M σ) o v1 v2 v4 v6 = (c8 σ v1 v2 v4 v6).map (wq_PM o M)) (hc26 : ∀ (σ : kS) (v1 : Int32) (v2 : Int64) (v4 : Int64) (v6 : Int32) (v7 : Int32) (v8 : Int32) (v9 : Int32), k26 (wr_PM o M σ) o v1 v2 v4 v6 v7 v8 v9 = (c26 σ v1 v2 v4 v6 v7 v8 v9).map (wq_PM o M))  (σ : kS) (v1 : Int32) (v2 : Int64) (v4 : Int64) (v6 : Int32) (v7 : Int32) (v9 : Int32) (s0 : Int32) : jb_PM_bounds_107 N k8 k26 (wr_PM o M σ) o v1 v2 v4 v6 v7 v9 s0 = (kb_PM_bounds_107 N c8 c26 σ v1 v2 v4 v6 v7 v9 s0).map (wq_PM o M) := by
  unfold jb_PM_bounds_107 kb_PM_bounds_107
  exact lb_PM_bounds_108 o M N _ _ _ _ hc8 hc26 _ _ _ _ _ _ _ _ _
set_option maxHeartbeats 4000000 in
theorem lb_PM_bounds_83 (o : Nat) (M : mv_M) (N : Nat) (k8 : mv_M → Nat → Int32 → Int64 → Int64 → Int32 → Option (Unit × mv_M)) (c8 : kS → Int32 → Int64 → Int64 → Int32 → Option (Unit × kS)) (k26 : mv_M → Nat → Int32 → Int64 → Int64 → Int32 → Int32 → Int32 → Int32 → Option (Unit × mv_M)) (c26 : kS → Int32 → Int64 → Int64 → Int32 → Int32 → Int32 → Int32 → Option (Unit × kS)) (hc8 : ∀ (σ : kS) (v1 : Int32) (v2 : Int64) (v4 : Int64) (v6 : Int32), k8 (wr_PM o M σ) o v1 v2 v4 v6 = (c8 σ v1 v2 v4 v6).map (wq_PM o M)) (hc26 : ∀ (σ : kS) (v1 : Int32) (v2 : Int64) (v4 : Int64) (v6 : Int32) (v7 : Int32) (v8 : Int32) (v9 : Int32), k26 (wr_PM o M σ) o v1 v2 v4 v6 v7 v8 v9 = (c26 σ v1 v2 v4 v6 v7 v8 v9).map (wq_PM o M))  (σ : kS) (v1 : Int32) (v2 : Int64) (v4 : Int64) (v6 : Int32) (v8 : Int32) (v9 : Int32) (v10 : Int32) (s0 : Int32) (s1 : Int32) : jb_PM_bounds_83 N k8 k26 (wr_PM o M σ) o v1 v2 v4 v6 v8 v9 v10 s0 s1 = (kb_PM_bounds_83 N c8 c26 σ v1 v2 v4 v6 v8 v9 v10 s0 s1).map (wq_PM o M) := by
  unfold jb_PM_bounds_83 kb_PM_bounds_83
  refine km_ite (fun _ => ?_) (fun _ => ?_)
  · exact lb_PM_bounds_107 o M N _ _ _ _ hc8 hc26 _ _ _ _ _ _ _ _
  · first | rw [wg_PM_30, Option.bind_some] | rw [Option.bind_some]
    rw [Option.bind_some]
    try rw [wl_PM_30]
    refine km_bind (fun x99 => ?_)
    refine km_ite (fun _ => ?_) (fun _ => ?_)
    · exact lb_PM_bounds_107 o M N _ _ _ _ hc8 hc26 _ _ _ _ _ _ _ _
    · exact lb_PM_bounds_108 o M N _ _ _ _ hc8 hc26 _ _ _ _ _ _ _ _ _
set_option maxHeartbeats 4000000 in
theorem lb_PM_bounds_62 (o : Nat) (M : mv_M) (N : Nat) (k8 : mv_M → Nat → Int32 → Int64 → Int64 → Int32 → Option (Unit × mv_M)) (c8 : kS → Int32 → Int64 → Int64 → Int32 → Option (Unit × kS)) (k26 : mv_M → Nat → Int32 → Int64 → Int64 → Int32 → Int32 → Int32 → Int32 → Option (Unit × mv_M)) (c26 : kS → Int32 → Int64 → Int64 → Int32 → Int32 → Int32 → Int32 → Option (Unit × kS)) (hc8 : ∀ (σ : kS) (v1 : Int32) (v2 : Int64) (v4 : Int64) (v6 : Int32), k8 (wr_PM o M σ) o v1 v2 v4 v6 = (c8 σ v1 v2 v4 v6).map (wq_PM o M)) (hc26 : ∀ (σ : kS) (v1 : Int32) (v2 : Int64) (v4 : Int64) (v6 : Int32) (v7 : Int32) (v8 : Int32) (v9 : Int32), k26 (wr_PM o M σ) o v1 v2 v4 v6 v7 v8 v9 = (c26 σ v1 v2 v4 v6 v7 v8 v9).map (wq_PM o M))  (σ : kS) (v1 : Int32) (v2 : Int64) (v4 : Int64) (v6 : Int32) (v7 : Int32) (v8 : Int32) (v9 : Int32) (s0 : Int32) : jb_PM_bounds_62 N k8 k26 (wr_PM o M σ) o v1 v2 v4 v6 v7 v8 v9 s0 = (kb_PM_bounds_62 N c8 c26 σ v1 v2 v4 v6 v7 v8 v9 s0).map (wq_PM o M) := by
  unfold jb_PM_bounds_62 kb_PM_bounds_62
  first | rw [wg_PM_30, Option.bind_some] | rw [Option.bind_some]
  rw [Option.bind_some]
  try rw [wl_PM_30]
  refine km_bind (fun x74 => ?_)
  refine km_ite (fun _ => ?_) (fun _ => ?_)
  · exact lb_PM_bounds_83 o M N _ _ _ _ hc8 hc26 _ _ _ _ _ _ _ _ _ _
  · exact lb_PM_bounds_83 o M N _ _ _ _ hc8 hc26 _ _ _ _ _ _ _ _ _ _
set_option maxHeartbeats 4000000 in
theorem lb_PM_bounds_61 (o : Nat) (M : mv_M) (N : Nat) (k8 : mv_M → Nat → Int32 → Int64 → Int64 → Int32 → Option (Unit × mv_M)) (c8 : kS → Int32 → Int64 → Int64 → Int32 → Option (Unit × kS)) (k26 : mv_M → Nat → Int32 → Int64 → Int64 → Int32 → Int32 → Int32 → Int32 → Option (Unit × mv_M)) (c26 : kS → Int32 → Int64 → Int64 → Int32 → Int32 → Int32 → Int32 → Option (Unit × kS)) (hc8 : ∀ (σ : kS) (v1 : Int32) (v2 : Int64) (v4 : Int64) (v6 : Int32), k8 (wr_PM o M σ) o v1 v2 v4 v6 = (c8 σ v1 v2 v4 v6).map (wq_PM o M)) (hc26 : ∀ (σ : kS) (v1 : Int32) (v2 : Int64) (v4 : Int64) (v6 : Int32) (v7 : Int32) (v8 : Int32) (v9 : Int32), k26 (wr_PM o M σ) o v1 v2 v4 v6 v7 v8 v9 = (c26 σ v1 v2 v4 v6 v7 v8 v9).map (wq_PM o M))  (σ : kS) (v1 : Int32) (v2 : Int64) (v4 : Int64) (v6 : Int32) (v7 : Int32) (v8 : Int32) (v9 : Int32) : jb_PM_bounds_61 N k8 k26 (wr_PM o M σ) o v1 v2 v4 v6 v7 v8 v9 = (kb_PM_bounds_61 N c8 c26 σ v1 v2 v4 v6 v7 v8 v9).map (wq_PM o M) := by
  unfold jb_PM_bounds_61 kb_PM_bounds_61
  exact lb_PM_bounds_62 o M N _ _ _ _ hc8 hc26 _ _ _ _ _ _ _ _ _
set_option maxHeartbeats 4000000 in
theorem lb_PM_bounds_26 (o : Nat) (M : mv_M) (N : Nat) (k8 : mv_M → Nat → Int32 → Int64 → Int64 → Int32 → Option (Unit × mv_M)) (c8 : kS → Int32 → Int64 → Int64 → Int32 → Option (Unit × kS)) (hc8 : ∀ (σ : kS) (v1 : Int32) (v2 : Int64) (v4 : Int64) (v6 : Int32), k8 (wr_PM o M σ) o v1 v2 v4 v6 = (c8 σ v1 v2 v4 v6).map (wq_PM o M)) : ∀ (n : Nat) (σ : kS) (v1 : Int32) (v2 : Int64) (v4 : Int64) (v6 : Int32) (v7 : Int32) (v8 : Int32) (v9 : Int32), jb_PM_bounds_26 N k8 n (wr_PM o M σ) o v1 v2 v4 v6 v7 v8 v9 = (kb_PM_bounds_26 N c8 n σ v1 v2 v4 v6 v7 v8 v9).map (wq_PM o M) := by
  intro n
  induction n with
  | zero => intros; rfl
  | succ n ih =>
    intro σ v1 v2 v4 v6 v7 v8 v9
    rw [jb_PM_bounds_26, kb_PM_bounds_26]
    first | rw [wg_PM_28, Option.bind_some] | rw [Option.bind_some]
    refine km_ite (fun _ => ?_) (fun _ => ?_)
    · refine km_ite (fun _ => ?_) (fun _ => ?_)
      · refine km_ite (fun _ => ?_) (fun _ => ?_)
        · try rw [wo_PM]
          try rw [lf_PM_least]
          refine km_call (fun r144 s144 => ?_)
          exact lb_PM_bounds_178 o M N _ _ hc8 _ _ _ _ _
        · first | rw [wg_PM_28, Option.bind_some] | rw [Option.bind_some]
          try rw [wo_PM]
          try rw [lf_PM_least]
          refine km_call (fun r175 s175 => ?_)
          exact lb_PM_bounds_178 o M N _ _ hc8 _ _ _ _ _
      · first | rw [wg_PM_28, Option.bind_some] | rw [Option.bind_some]
        try rw [wo_PM]
        try rw [lf_PM_least]
        refine km_call (fun r130 s130 => ?_)
        exact lb_PM_bounds_178 o M N _ _ hc8 _ _ _ _ _
    · refine km_ite (fun _ => ?_) (fun _ => ?_)
      · exact lb_PM_bounds_61 o M N _ _ _ _ hc8 ih _ _ _ _ _ _ _ _
      · first | rw [wg_PM_29, Option.bind_some] | rw [Option.bind_some]
        rw [Option.bind_some]
        try rw [wl_PM_29]
        refine km_bind (fun x46 => ?_)
        first | rw [wg_PM_29, Option.bind_some] | rw [Option.bind_some]
        rw [Option.bind_some]
        try rw [wl_PM_29]
        refine km_bind (fun x53 => ?_)
        refine km_ite (fun _ => ?_) (fun _ => ?_)
        · exact lb_PM_bounds_61 o M N _ _ _ _ hc8 ih _ _ _ _ _ _ _ _
        · exact lb_PM_bounds_62 o M N _ _ _ _ hc8 ih _ _ _ _ _ _ _ _ _
set_option maxHeartbeats 4000000 in
theorem lb_PM_bounds_8 (o : Nat) (M : mv_M) (N : Nat) : ∀ (n : Nat) (σ : kS) (v1 : Int32) (v2 : Int64) (v4 : Int64) (v6 : Int32), jb_PM_bounds_8 N n (wr_PM o M σ) o v1 v2 v4 v6 = (kb_PM_bounds_8 N n σ v1 v2 v4 v6).map (wq_PM o M) := by
  intro n
  induction n with
  | zero => intros; rfl
  | succ n ih =>
    intro σ v1 v2 v4 v6
    rw [jb_PM_bounds_8, kb_PM_bounds_8]
    first | rw [wg_PM_28, Option.bind_some] | rw [Option.bind_some]
    refine km_ite (fun _ => ?_) (fun _ => ?_)
    · rw [wp_PM_0, Option.bind_some]
      refine km_let ?_
      rw [wp_PM_1, Option.bind_some]
      refine km_let ?_
      rfl
    · exact lb_PM_bounds_26 o M N _ _ ih N _ _ _ _ _ _ _ _
set_option maxHeartbeats 4000000 in
theorem lb_PM_bounds_0 (o : Nat) (M : mv_M) (N : Nat)  (σ : kS) (v1 : Int32) : jb_PM_bounds_0 N (wr_PM o M σ) o v1 = (kb_PM_bounds_0 N σ v1).map (wq_PM o M) := by
  unfold jb_PM_bounds_0 kb_PM_bounds_0
  exact lb_PM_bounds_8 o M N N _ _ _ _ _
theorem lf_PM_bounds (o : Nat) (M : mv_M) (N : Nat) (σ : kS) (v1 : Int32) : jf_PM_bounds N (wr_PM o M σ) o v1 = (kf_PM_bounds N σ v1).map (wq_PM o M) := lb_PM_bounds_0 o M N σ v1
/-! ===== PlainLearnerModel.ranks()V ===== -/
def kb_PM_ranks_97 (N : Nat) (c7 : kS → Int64 → Int64 → Int32 → Option (Unit × kS)) (σ : kS) (v1 : Int64) (v3 : Int64) (v5 : Int32) : Option (Unit × kS) :=
  c7 σ v1 v3 (v5 + 1)
def kb_PM_ranks_68 (N : Nat) (c7 : kS → Int64 → Int64 → Int32 → Option (Unit × kS)) (c35 : kS → Int64 → Int64 → Int32 → Int32 → Int32 → Option (Unit × kS)) (σ : kS) (v1 : Int64) (v3 : Int64) (v5 : Int32) (v7 : Int32) (s0 : Int32) (s1 : Int32) : Option (Unit × kS) :=
  c35 σ v1 v3 v5 (s0 + s1) (v7 + 1)
def kb_PM_ranks_35 (N : Nat) (c7 : kS → Int64 → Int64 → Int32 → Option (Unit × kS)) : Nat → kS → Int64 → Int64 → Int32 → Int32 → Int32 → Option (Unit × kS)
  | 0, _, _, _, _, _, _ => none
  | n + 1, σ, v1, v3, v5, v6, v7 =>
    if (σ.1 28) ≤ v7 then (kk_call (kf_PM_plus N σ v1 v3 1 v6.toInt64) fun r84 s84 =>
    kb_PM_ranks_97 N c7 s84 (s84.2.1 0) (s84.2.1 1) v5) else
    Option.bind (mj_tab (σ.2.2.1 29) 40 v7) fun x52 =>
    Option.bind (mj_tab (σ.2.2.1 29) 40 v5) fun x59 =>
    if x52 < x59 then (kb_PM_ranks_68 N c7 (kb_PM_ranks_35 N c7 n) σ v1 v3 v5 v7 v6 0) else
    kb_PM_ranks_68 N c7 (kb_PM_ranks_35 N c7 n) σ v1 v3 v5 v7 v6 1
def kb_PM_ranks_7 (N : Nat) : Nat → kS → Int64 → Int64 → Int32 → Option (Unit × kS)
  | 0, _, _, _, _ => none
  | n + 1, σ, v1, v3, v5 =>
    if (σ.1 28) ≤ v5 then (kk_call (kf_PM_yes N σ ) fun r107 s107 =>
    kk_call (kf_PM_over N s107 v1 v3 r107.toInt64 1) fun r112 s112 =>
    some ((), s112)) else
    Option.bind (mj_tab (σ.2.2.1 30) 40 v5) fun x22 =>
    if x22 = 0 then (kb_PM_ranks_97 N (kb_PM_ranks_7 N n) σ v1 v3 v5) else
    kb_PM_ranks_35 N (kb_PM_ranks_7 N n) N σ v1 v3 v5 0 0
def kb_PM_ranks_0 (N : Nat) (σ : kS) : Option (Unit × kS) :=
  kb_PM_ranks_7 N N σ 0 1 0
def kf_PM_ranks (N : Nat) (σ : kS) : Option (Unit × kS) := kb_PM_ranks_0 N σ
set_option maxHeartbeats 4000000 in
theorem lb_PM_ranks_97 (o : Nat) (M : mv_M) (N : Nat) (k7 : mv_M → Nat → Int64 → Int64 → Int32 → Option (Unit × mv_M)) (c7 : kS → Int64 → Int64 → Int32 → Option (Unit × kS)) (hc7 : ∀ (σ : kS) (v1 : Int64) (v3 : Int64) (v5 : Int32), k7 (wr_PM o M σ) o v1 v3 v5 = (c7 σ v1 v3 v5).map (wq_PM o M))  (σ : kS) (v1 : Int64) (v3 : Int64) (v5 : Int32) : jb_PM_ranks_97 N k7 (wr_PM o M σ) o v1 v3 v5 = (kb_PM_ranks_97 N c7 σ v1 v3 v5).map (wq_PM o M) := by
  unfold jb_PM_ranks_97 kb_PM_ranks_97
  exact hc7 _ _ _ _
set_option maxHeartbeats 4000000 in
theorem lb_PM_ranks_68 (o : Nat) (M : mv_M) (N : Nat) (k7 : mv_M → Nat → Int64 → Int64 → Int32 → Option (Unit × mv_M)) (c7 : kS → Int64 → Int64 → Int32 → Option (Unit × kS)) (k35 : mv_M → Nat → Int64 → Int64 → Int32 → Int32 → Int32 → Option (Unit × mv_M)) (c35 : kS → Int64 → Int64 → Int32 → Int32 → Int32 → Option (Unit × kS)) (hc7 : ∀ (σ : kS) (v1 : Int64) (v3 : Int64) (v5 : Int32), k7 (wr_PM o M σ) o v1 v3 v5 = (c7 σ v1 v3 v5).map (wq_PM o M)) (hc35 : ∀ (σ : kS) (v1 : Int64) (v3 : Int64) (v5 : Int32) (v6 : Int32) (v7 : Int32), k35 (wr_PM o M σ) o v1 v3 v5 v6 v7 = (c35 σ v1 v3 v5 v6 v7).map (wq_PM o M))  (σ : kS) (v1 : Int64) (v3 : Int64) (v5 : Int32) (v7 : Int32) (s0 : Int32) (s1 : Int32) : jb_PM_ranks_68 N k7 k35 (wr_PM o M σ) o v1 v3 v5 v7 s0 s1 = (kb_PM_ranks_68 N c7 c35 σ v1 v3 v5 v7 s0 s1).map (wq_PM o M) := by
  unfold jb_PM_ranks_68 kb_PM_ranks_68
  exact hc35 _ _ _ _ _ _
set_option maxHeartbeats 4000000 in
theorem lb_PM_ranks_35 (o : Nat) (M : mv_M) (N : Nat) (k7 : mv_M → Nat → Int64 → Int64 → Int32 → Option (Unit × mv_M)) (c7 : kS → Int64 → Int64 → Int32 → Option (Unit × kS)) (hc7 : ∀ (σ : kS) (v1 : Int64) (v3 : Int64) (v5 : Int32), k7 (wr_PM o M σ) o v1 v3 v5 = (c7 σ v1 v3 v5).map (wq_PM o M)) : ∀ (n : Nat) (σ : kS) (v1 : Int64) (v3 : Int64) (v5 : Int32) (v6 : Int32) (v7 : Int32), jb_PM_ranks_35 N k7 n (wr_PM o M σ) o v1 v3 v5 v6 v7 = (kb_PM_ranks_35 N c7 n σ v1 v3 v5 v6 v7).map (wq_PM o M) := by
  intro n
  induction n with
  | zero => intros; rfl
  | succ n ih =>
    intro σ v1 v3 v5 v6 v7
    rw [jb_PM_ranks_35, kb_PM_ranks_35]
    first | rw [wg_PM_28, Option.bind_some] | rw [Option.bind_some]
    refine km_ite (fun _ => ?_) (fun _ => ?_)
    · try rw [wo_PM]
      try rw [lf_PM_plus]
      refine km_call (fun r84 s84 => ?_)
      first | rw [wg_PM_0, Option.bind_some] | rw [Option.bind_some]
      first | rw [wg_PM_1, Option.bind_some] | rw [Option.bind_some]
      exact lb_PM_ranks_97 o M N _ _ hc7 _ _ _ _
    · first | rw [wg_PM_29, Option.bind_some] | rw [Option.bind_some]
      rw [Option.bind_some]
      try rw [wl_PM_29]
      refine km_bind (fun x52 => ?_)
      first | rw [wg_PM_29, Option.bind_some] | rw [Option.bind_some]
      rw [Option.bind_some]
      try rw [wl_PM_29]
      refine km_bind (fun x59 => ?_)
      refine km_ite (fun _ => ?_) (fun _ => ?_)
      · exact lb_PM_ranks_68 o M N _ _ _ _ hc7 ih _ _ _ _ _ _ _
      · exact lb_PM_ranks_68 o M N _ _ _ _ hc7 ih _ _ _ _ _ _ _
set_option maxHeartbeats 4000000 in
theorem lb_PM_ranks_7 (o : Nat) (M : mv_M) (N : Nat) : ∀ (n : Nat) (σ : kS) (v1 : Int64) (v3 : Int64) (v5 : Int32), jb_PM_ranks_7 N n (wr_PM o M σ) o v1 v3 v5 = (kb_PM_ranks_7 N n σ v1 v3 v5).map (wq_PM o M) := by
  intro n
  induction n with
  | zero => intros; rfl
  | succ n ih =>
    intro σ v1 v3 v5
    rw [jb_PM_ranks_7, kb_PM_ranks_7]
    first | rw [wg_PM_28, Option.bind_some] | rw [Option.bind_some]
    refine km_ite (fun _ => ?_) (fun _ => ?_)
    · try rw [wo_PM]
      try rw [lf_PM_yes]
      refine km_call (fun r107 s107 => ?_)
      try rw [wo_PM]
      try rw [lf_PM_over]
      refine km_call (fun r112 s112 => ?_)
      rfl
    · first | rw [wg_PM_30, Option.bind_some] | rw [Option.bind_some]
      rw [Option.bind_some]
      try rw [wl_PM_30]
      refine km_bind (fun x22 => ?_)
      refine km_ite (fun _ => ?_) (fun _ => ?_)
      · exact lb_PM_ranks_97 o M N _ _ ih _ _ _ _
      · exact lb_PM_ranks_35 o M N _ _ ih N _ _ _ _ _ _
set_option maxHeartbeats 4000000 in
theorem lb_PM_ranks_0 (o : Nat) (M : mv_M) (N : Nat)  (σ : kS) : jb_PM_ranks_0 N (wr_PM o M σ) o = (kb_PM_ranks_0 N σ).map (wq_PM o M) := by
  unfold jb_PM_ranks_0 kb_PM_ranks_0
  exact lb_PM_ranks_7 o M N N _ _ _ _
theorem lf_PM_ranks (o : Nat) (M : mv_M) (N : Nat) (σ : kS) : jf_PM_ranks N (wr_PM o M σ) o = (kf_PM_ranks N σ).map (wq_PM o M) := lb_PM_ranks_0 o M N σ
/-! ===== PlainLearnerModel.score(II)J ===== -/
def kb_PM_score_22 (N : Nat) (σ : kS) : Option (Int64 × kS) :=
  some ((-1099511627776), σ)
def kb_PM_score_63 (N : Nat) (σ : kS) (v2 : Int32) : Option (Int64 × kS) :=
  kk_call (kf_PM_told N σ v2) fun r65 s65 =>
  some (r65, s65)
def kb_PM_score_60 (N : Nat) (σ : kS) (v2 : Int32) (s1 : Int32) : Option (Int64 × kS) :=
  kk_call (kf_PM_bounds N σ s1) fun r60 s60 =>
  kb_PM_score_63 N s60 v2
def kb_PM_score_0 (N : Nat) (σ : kS) (v1 : Int32) (v2 : Int32) : Option (Int64 × kS) :=
  Option.bind (kf_PM_isIn N v1.toInt64 0 3) fun r6 =>
  if r6 = 0 then (kb_PM_score_22 N σ) else
  Option.bind (kf_PM_isIn N v2.toInt64 0 1) fun r16 =>
  if r16 = 0 then (kb_PM_score_22 N σ) else
  if v1 = 0 then (kk_call (kf_PM_sides N σ ) fun r31 s31 =>
  kb_PM_score_63 N s31 v2) else
  if v1 = 3 then (kk_call (kf_PM_ranks N σ ) fun r43 s43 =>
  kb_PM_score_63 N s43 v2) else
  if v1 = 1 then (kb_PM_score_60 N σ v2 1) else
  kb_PM_score_60 N σ v2 0
def kf_PM_score (N : Nat) (σ : kS) (v1 : Int32) (v2 : Int32) : Option (Int64 × kS) := kb_PM_score_0 N σ v1 v2
set_option maxHeartbeats 4000000 in
theorem lb_PM_score_22 (o : Nat) (M : mv_M) (N : Nat)  (σ : kS) : jb_PM_score_22 N (wr_PM o M σ) = (kb_PM_score_22 N σ).map (wq_PM o M) := by
  unfold jb_PM_score_22 kb_PM_score_22
  rfl
set_option maxHeartbeats 4000000 in
theorem lb_PM_score_63 (o : Nat) (M : mv_M) (N : Nat)  (σ : kS) (v2 : Int32) : jb_PM_score_63 N (wr_PM o M σ) o v2 = (kb_PM_score_63 N σ v2).map (wq_PM o M) := by
  unfold jb_PM_score_63 kb_PM_score_63
  try rw [wo_PM]
  try rw [lf_PM_told]
  refine km_call (fun r65 s65 => ?_)
  rfl
set_option maxHeartbeats 4000000 in
theorem lb_PM_score_60 (o : Nat) (M : mv_M) (N : Nat)  (σ : kS) (v2 : Int32) (s1 : Int32) : jb_PM_score_60 N (wr_PM o M σ) o v2 o s1 = (kb_PM_score_60 N σ v2 s1).map (wq_PM o M) := by
  unfold jb_PM_score_60 kb_PM_score_60
  try rw [wo_PM]
  try rw [lf_PM_bounds]
  refine km_call (fun r60 s60 => ?_)
  exact lb_PM_score_63 o M N _ _
set_option maxHeartbeats 4000000 in
theorem lb_PM_score_0 (o : Nat) (M : mv_M) (N : Nat)  (σ : kS) (v1 : Int32) (v2 : Int32) : jb_PM_score_0 N (wr_PM o M σ) o v1 v2 = (kb_PM_score_0 N σ v1 v2).map (wq_PM o M) := by
  unfold jb_PM_score_0 kb_PM_score_0
  try rw [lf_PM_isIn]
  refine km_callP (fun r6 => ?_)
  refine km_ite (fun _ => ?_) (fun _ => ?_)
  · exact lb_PM_score_22 o M N _
  · try rw [lf_PM_isIn]
    refine km_callP (fun r16 => ?_)
    refine km_ite (fun _ => ?_) (fun _ => ?_)
    · exact lb_PM_score_22 o M N _
    · refine km_ite (fun _ => ?_) (fun _ => ?_)
      · try rw [wo_PM]
        try rw [lf_PM_sides]
        refine km_call (fun r31 s31 => ?_)
        exact lb_PM_score_63 o M N _ _
      · refine km_ite (fun _ => ?_) (fun _ => ?_)
        · try rw [wo_PM]
          try rw [lf_PM_ranks]
          refine km_call (fun r43 s43 => ?_)
          exact lb_PM_score_63 o M N _ _
        · refine km_ite (fun _ => ?_) (fun _ => ?_)
          · exact lb_PM_score_60 o M N _ _ _
          · exact lb_PM_score_60 o M N _ _ _
theorem lf_PM_score (o : Nat) (M : mv_M) (N : Nat) (σ : kS) (v1 : Int32) (v2 : Int32) : jf_PM_score N (wr_PM o M σ) o v1 v2 = (kf_PM_score N σ v1 v2).map (wq_PM o M) := lb_PM_score_0 o M N σ v1 v2
/-! ===== PlainLearnerModel.forget()I ===== -/
def kb_PM_forget_0 (N : Nat) (σ : kS) : Option (Int32 × kS) :=
  kk_let (kI σ 28 0) fun s7 =>
  some ((σ.1 28), s7)
def kf_PM_forget (N : Nat) (σ : kS) : Option (Int32 × kS) := kb_PM_forget_0 N σ
set_option maxHeartbeats 4000000 in
theorem lb_PM_forget_0 (o : Nat) (M : mv_M) (N : Nat)  (σ : kS) : jb_PM_forget_0 N (wr_PM o M σ) o = (kb_PM_forget_0 N σ).map (wq_PM o M) := by
  unfold jb_PM_forget_0 kb_PM_forget_0
  first | rw [wg_PM_28, Option.bind_some] | rw [Option.bind_some]
  rw [wp_PM_28, Option.bind_some]
  refine km_let ?_
  rfl
theorem lf_PM_forget (o : Nat) (M : mv_M) (N : Nat) (σ : kS) : jf_PM_forget N (wr_PM o M σ) o = (kf_PM_forget N σ).map (wq_PM o M) := lb_PM_forget_0 o M N σ
/-! ===== PlainLearnerModel.feed(JI)I ===== -/
def kb_PM_feed_72 (N : Nat) : Nat → kS → Int64 → Int32 → Int32 → Option (Int32 × kS)
  | 0, _, _, _, _ => none
  | n + 1, σ, v1, v3, v4 =>
    if v3 ≤ v4 then (some ((σ.1 31), σ)) else
    kk_let (kI σ 31 ((σ.1 31) + 1)) fun s90 =>
    mj_gd (σ.1 31) 200 <| kk_let (kA s90 32 (σ.1 31).toNatClampNeg ((((v1.toUInt64 >>> (((8 * v4) : Int32).toInt64.toUInt64 &&& Int64.toUInt64 63)).toInt64) &&& 255).toInt32 - 97)) fun s108 =>
    kb_PM_feed_72 N n s108 v1 v3 (v4 + 1)
def kb_PM_feed_17 (N : Nat) : Nat → kS → Int64 → Int32 → Int32 → Option (Int32 × kS)
  | 0, _, _, _, _ => none
  | n + 1, σ, v1, v3, v4 =>
    if v3 ≤ v4 then (if ((σ.1 31) + v3) ≤ 200 then (kb_PM_feed_72 N N σ v1 v3 0) else
    some ((-3), σ)) else
    Option.bind (kf_PM_isIn N (((v1.toUInt64 >>> (((8 * v4) : Int32).toInt64.toUInt64 &&& Int64.toUInt64 63)).toInt64) &&& 255) 97 122) fun r40 =>
    if r40 = 0 then (some ((-1), σ)) else
    kb_PM_feed_17 N n σ v1 v3 (v4 + 1)
def kb_PM_feed_0 (N : Nat) (σ : kS) (v1 : Int64) (v3 : Int32) : Option (Int32 × kS) :=
  Option.bind (kf_PM_isIn N v3.toInt64 1 8) fun r6 =>
  if r6 = 0 then (some ((-1), σ)) else
  kb_PM_feed_17 N N σ v1 v3 0
def kf_PM_feed (N : Nat) (σ : kS) (v1 : Int64) (v3 : Int32) : Option (Int32 × kS) := kb_PM_feed_0 N σ v1 v3
set_option maxHeartbeats 4000000 in
theorem lb_PM_feed_72 (o : Nat) (M : mv_M) (N : Nat) : ∀ (n : Nat) (σ : kS) (v1 : Int64) (v3 : Int32) (v4 : Int32), jb_PM_feed_72 N n (wr_PM o M σ) o v1 v3 v4 = (kb_PM_feed_72 N n σ v1 v3 v4).map (wq_PM o M) := by
  intro n
  induction n with
  | zero => intros; rfl
  | succ n ih =>
    intro σ v1 v3 v4
    rw [jb_PM_feed_72, kb_PM_feed_72]
    refine km_ite (fun _ => ?_) (fun _ => ?_)
    · first | rw [wg_PM_31, Option.bind_some] | rw [Option.bind_some]
      rfl
    · first | rw [wg_PM_32, Option.bind_some] | rw [Option.bind_some]
      first | rw [wg_PM_31, Option.bind_some] | rw [Option.bind_some]
      rw [wp_PM_31, Option.bind_some]
      refine km_let ?_
      rw [Option.bind_some]
      rw [wx_PM_32]
      refine km_gd (fun _ => ?_)
      refine km_let ?_
      skip
      exact ih _ _ _ _
set_option maxHeartbeats 4000000 in
theorem lb_PM_feed_17 (o : Nat) (M : mv_M) (N : Nat) : ∀ (n : Nat) (σ : kS) (v1 : Int64) (v3 : Int32) (v4 : Int32), jb_PM_feed_17 N n (wr_PM o M σ) o v1 v3 v4 = (kb_PM_feed_17 N n σ v1 v3 v4).map (wq_PM o M) := by
  intro n
  induction n with
  | zero => intros; rfl
  | succ n ih =>
    intro σ v1 v3 v4
    rw [jb_PM_feed_17, kb_PM_feed_17]
    refine km_ite (fun _ => ?_) (fun _ => ?_)
    · first | rw [wg_PM_31, Option.bind_some] | rw [Option.bind_some]
      refine km_ite (fun _ => ?_) (fun _ => ?_)
      · exact lb_PM_feed_72 o M N N _ _ _ _
      · rfl
    · try rw [lf_PM_isIn]
      refine km_callP (fun r40 => ?_)
      refine km_ite (fun _ => ?_) (fun _ => ?_)
      · rfl
      · exact ih _ _ _ _
set_option maxHeartbeats 4000000 in
theorem lb_PM_feed_0 (o : Nat) (M : mv_M) (N : Nat)  (σ : kS) (v1 : Int64) (v3 : Int32) : jb_PM_feed_0 N (wr_PM o M σ) o v1 v3 = (kb_PM_feed_0 N σ v1 v3).map (wq_PM o M) := by
  unfold jb_PM_feed_0 kb_PM_feed_0
  try rw [lf_PM_isIn]
  refine km_callP (fun r6 => ?_)
  refine km_ite (fun _ => ?_) (fun _ => ?_)
  · rfl
  · exact lb_PM_feed_17 o M N N _ _ _ _
theorem lf_PM_feed (o : Nat) (M : mv_M) (N : Nat) (σ : kS) (v1 : Int64) (v3 : Int32) : jf_PM_feed N (wr_PM o M σ) o v1 v3 = (kf_PM_feed N σ v1 v3).map (wq_PM o M) := lb_PM_feed_0 o M N σ v1 v3
/-! ===== PlainLearnerModel.empty()I ===== -/
def kb_PM_empty_0 (N : Nat) (σ : kS) : Option (Int32 × kS) :=
  kk_let (kI σ 31 0) fun s7 =>
  some ((σ.1 31), s7)
def kf_PM_empty (N : Nat) (σ : kS) : Option (Int32 × kS) := kb_PM_empty_0 N σ
set_option maxHeartbeats 4000000 in
theorem lb_PM_empty_0 (o : Nat) (M : mv_M) (N : Nat)  (σ : kS) : jb_PM_empty_0 N (wr_PM o M σ) o = (kb_PM_empty_0 N σ).map (wq_PM o M) := by
  unfold jb_PM_empty_0 kb_PM_empty_0
  first | rw [wg_PM_31, Option.bind_some] | rw [Option.bind_some]
  rw [wp_PM_31, Option.bind_some]
  refine km_let ?_
  rfl
theorem lf_PM_empty (o : Nat) (M : mv_M) (N : Nat) (σ : kS) : jf_PM_empty N (wr_PM o M σ) o = (kf_PM_empty N σ).map (wq_PM o M) := lb_PM_empty_0 o M N σ
/-! ===== PlainLearnerModel.often(II)I ===== -/
def kb_PM_often_72 (N : Nat) (c5 : kS → Int32 → Int32 → Int32 → Int32 → Option (Int32 × kS)) (σ : kS) (v1 : Int32) (v2 : Int32) (v3 : Int32) (s0 : Int32) (s1 : Int32) : Option (Int32 × kS) :=
  c5 σ v1 v2 v3 (s0 + s1)
def kb_PM_often_58 (N : Nat) (c5 : kS → Int32 → Int32 → Int32 → Int32 → Option (Int32 × kS)) (σ : kS) (v1 : Int32) (v2 : Int32) (v4 : Int32) (v5 : Int32) (s0 : Int32) (s1 : Int32) : Option (Int32 × kS) :=
  if v5 = 0 then (kb_PM_often_72 N c5 σ v1 v2 (s0 + s1) v4 1) else
  kb_PM_often_72 N c5 σ v1 v2 (s0 + s1) v4 2
def kb_PM_often_45 (N : Nat) (c5 : kS → Int32 → Int32 → Int32 → Int32 → Option (Int32 × kS)) (σ : kS) (v1 : Int32) (v2 : Int32) (v3 : Int32) (v4 : Int32) (s0 : Int32) : Option (Int32 × kS) :=
  if s0 = 0 then (kb_PM_often_58 N c5 σ v1 v2 v4 s0 v3 0) else
  kb_PM_often_58 N c5 σ v1 v2 v4 s0 v3 1
def kb_PM_often_44 (N : Nat) (c5 : kS → Int32 → Int32 → Int32 → Int32 → Option (Int32 × kS)) (σ : kS) (v1 : Int32) (v2 : Int32) (v3 : Int32) (v4 : Int32) : Option (Int32 × kS) :=
  kb_PM_often_45 N c5 σ v1 v2 v3 v4 0
def kb_PM_often_5 (N : Nat) : Nat → kS → Int32 → Int32 → Int32 → Int32 → Option (Int32 × kS)
  | 0, _, _, _, _, _ => none
  | n + 1, σ, v1, v2, v3, v4 =>
    if (σ.1 31) ≤ (v4 + 1) then (some (v3, σ)) else
    Option.bind (mj_tab (σ.2.2.1 32) 200 v4) fun x22 =>
    if x22 = v1 then (Option.bind (mj_tab (σ.2.2.1 32) 200 (v4 + 1)) fun x35 =>
    if x35 = v2 then (kb_PM_often_45 N (kb_PM_often_5 N n) σ v1 v2 v3 v4 1) else
    kb_PM_often_44 N (kb_PM_often_5 N n) σ v1 v2 v3 v4) else
    kb_PM_often_44 N (kb_PM_often_5 N n) σ v1 v2 v3 v4
def kb_PM_often_0 (N : Nat) (σ : kS) (v1 : Int32) (v2 : Int32) : Option (Int32 × kS) :=
  kb_PM_often_5 N N σ v1 v2 0 0
def kf_PM_often (N : Nat) (σ : kS) (v1 : Int32) (v2 : Int32) : Option (Int32 × kS) := kb_PM_often_0 N σ v1 v2
set_option maxHeartbeats 4000000 in
theorem lb_PM_often_72 (o : Nat) (M : mv_M) (N : Nat) (k5 : mv_M → Nat → Int32 → Int32 → Int32 → Int32 → Option (Int32 × mv_M)) (c5 : kS → Int32 → Int32 → Int32 → Int32 → Option (Int32 × kS)) (hc5 : ∀ (σ : kS) (v1 : Int32) (v2 : Int32) (v3 : Int32) (v4 : Int32), k5 (wr_PM o M σ) o v1 v2 v3 v4 = (c5 σ v1 v2 v3 v4).map (wq_PM o M))  (σ : kS) (v1 : Int32) (v2 : Int32) (v3 : Int32) (s0 : Int32) (s1 : Int32) : jb_PM_often_72 N k5 (wr_PM o M σ) o v1 v2 v3 s0 s1 = (kb_PM_often_72 N c5 σ v1 v2 v3 s0 s1).map (wq_PM o M) := by
  unfold jb_PM_often_72 kb_PM_often_72
  exact hc5 _ _ _ _ _
set_option maxHeartbeats 4000000 in
theorem lb_PM_often_58 (o : Nat) (M : mv_M) (N : Nat) (k5 : mv_M → Nat → Int32 → Int32 → Int32 → Int32 → Option (Int32 × mv_M)) (c5 : kS → Int32 → Int32 → Int32 → Int32 → Option (Int32 × kS)) (hc5 : ∀ (σ : kS) (v1 : Int32) (v2 : Int32) (v3 : Int32) (v4 : Int32), k5 (wr_PM o M σ) o v1 v2 v3 v4 = (c5 σ v1 v2 v3 v4).map (wq_PM o M))  (σ : kS) (v1 : Int32) (v2 : Int32) (v4 : Int32) (v5 : Int32) (s0 : Int32) (s1 : Int32) : jb_PM_often_58 N k5 (wr_PM o M σ) o v1 v2 v4 v5 s0 s1 = (kb_PM_often_58 N c5 σ v1 v2 v4 v5 s0 s1).map (wq_PM o M) := by
  unfold jb_PM_often_58 kb_PM_often_58
  refine km_ite (fun _ => ?_) (fun _ => ?_)
  · exact lb_PM_often_72 o M N _ _ hc5 _ _ _ _ _ _
  · exact lb_PM_often_72 o M N _ _ hc5 _ _ _ _ _ _
set_option maxHeartbeats 4000000 in
theorem lb_PM_often_45 (o : Nat) (M : mv_M) (N : Nat) (k5 : mv_M → Nat → Int32 → Int32 → Int32 → Int32 → Option (Int32 × mv_M)) (c5 : kS → Int32 → Int32 → Int32 → Int32 → Option (Int32 × kS)) (hc5 : ∀ (σ : kS) (v1 : Int32) (v2 : Int32) (v3 : Int32) (v4 : Int32), k5 (wr_PM o M σ) o v1 v2 v3 v4 = (c5 σ v1 v2 v3 v4).map (wq_PM o M))  (σ : kS) (v1 : Int32) (v2 : Int32) (v3 : Int32) (v4 : Int32) (s0 : Int32) : jb_PM_often_45 N k5 (wr_PM o M σ) o v1 v2 v3 v4 s0 = (kb_PM_often_45 N c5 σ v1 v2 v3 v4 s0).map (wq_PM o M) := by
  unfold jb_PM_often_45 kb_PM_often_45
  refine km_ite (fun _ => ?_) (fun _ => ?_)
  · exact lb_PM_often_58 o M N _ _ hc5 _ _ _ _ _ _ _
  · exact lb_PM_often_58 o M N _ _ hc5 _ _ _ _ _ _ _
set_option maxHeartbeats 4000000 in
theorem lb_PM_often_44 (o : Nat) (M : mv_M) (N : Nat) (k5 : mv_M → Nat → Int32 → Int32 → Int32 → Int32 → Option (Int32 × mv_M)) (c5 : kS → Int32 → Int32 → Int32 → Int32 → Option (Int32 × kS)) (hc5 : ∀ (σ : kS) (v1 : Int32) (v2 : Int32) (v3 : Int32) (v4 : Int32), k5 (wr_PM o M σ) o v1 v2 v3 v4 = (c5 σ v1 v2 v3 v4).map (wq_PM o M))  (σ : kS) (v1 : Int32) (v2 : Int32) (v3 : Int32) (v4 : Int32) : jb_PM_often_44 N k5 (wr_PM o M σ) o v1 v2 v3 v4 = (kb_PM_often_44 N c5 σ v1 v2 v3 v4).map (wq_PM o M) := by
  unfold jb_PM_often_44 kb_PM_often_44
  exact lb_PM_often_45 o M N _ _ hc5 _ _ _ _ _ _
set_option maxHeartbeats 4000000 in
theorem lb_PM_often_5 (o : Nat) (M : mv_M) (N : Nat) : ∀ (n : Nat) (σ : kS) (v1 : Int32) (v2 : Int32) (v3 : Int32) (v4 : Int32), jb_PM_often_5 N n (wr_PM o M σ) o v1 v2 v3 v4 = (kb_PM_often_5 N n σ v1 v2 v3 v4).map (wq_PM o M) := by
  intro n
  induction n with
  | zero => intros; rfl
  | succ n ih =>
    intro σ v1 v2 v3 v4
    rw [jb_PM_often_5, kb_PM_often_5]
    first | rw [wg_PM_31, Option.bind_some] | rw [Option.bind_some]
    refine km_ite (fun _ => ?_) (fun _ => ?_)
    · rfl
    · first | rw [wg_PM_32, Option.bind_some] | rw [Option.bind_some]
      rw [Option.bind_some]
      try rw [wl_PM_32]
      refine km_bind (fun x22 => ?_)
      refine km_ite (fun _ => ?_) (fun _ => ?_)
      · first | rw [wg_PM_32, Option.bind_some] | rw [Option.bind_some]
        rw [Option.bind_some]
        try rw [wl_PM_32]
        refine km_bind (fun x35 => ?_)
        refine km_ite (fun _ => ?_) (fun _ => ?_)
        · exact lb_PM_often_45 o M N _ _ ih _ _ _ _ _ _
        · exact lb_PM_often_44 o M N _ _ ih _ _ _ _ _
      · exact lb_PM_often_44 o M N _ _ ih _ _ _ _ _
set_option maxHeartbeats 4000000 in
theorem lb_PM_often_0 (o : Nat) (M : mv_M) (N : Nat)  (σ : kS) (v1 : Int32) (v2 : Int32) : jb_PM_often_0 N (wr_PM o M σ) o v1 v2 = (kb_PM_often_0 N σ v1 v2).map (wq_PM o M) := by
  unfold jb_PM_often_0 kb_PM_often_0
  exact lb_PM_often_5 o M N N _ _ _ _ _
theorem lf_PM_often (o : Nat) (M : mv_M) (N : Nat) (σ : kS) (v1 : Int32) (v2 : Int32) : jf_PM_often N (wr_PM o M σ) o v1 v2 = (kf_PM_often N σ v1 v2).map (wq_PM o M) := lb_PM_often_0 o M N σ v1 v2
/-! ===== PlainLearnerModel.joins(III)V ===== -/
def kb_PM_joins_95 (N : Nat) (c6 : kS → Int32 → Int32 → Int32 → Int32 → Int32 → Option (Unit × kS)) (σ : kS) (v1 : Int32) (v2 : Int32) (v3 : Int32) (v4 : Int32) (s0 : Int32) (s1 : Int32) : Option (Unit × kS) :=
  c6 σ v1 v2 v3 v4 (s0 + s1)
def kb_PM_joins_82 (N : Nat) (c6 : kS → Int32 → Int32 → Int32 → Int32 → Int32 → Option (Unit × kS)) (σ : kS) (v1 : Int32) (v2 : Int32) (v3 : Int32) (v4 : Int32) (v5 : Int32) (v6 : Int32) (s1 : Int32) (s2 : Int32) : Option (Unit × kS) :=
  mj_gd s1 200 <| kk_let (kA σ 32 s1.toNatClampNeg s2) fun s82 =>
  if v6 = 0 then (kb_PM_joins_95 N c6 s82 v1 v2 v3 v4 v5 1) else
  kb_PM_joins_95 N c6 s82 v1 v2 v3 v4 v5 2
def kb_PM_joins_55 (N : Nat) (c6 : kS → Int32 → Int32 → Int32 → Int32 → Int32 → Option (Unit × kS)) (σ : kS) (v1 : Int32) (v2 : Int32) (v3 : Int32) (v4 : Int32) (v5 : Int32) (s0 : Int32) : Option (Unit × kS) :=
  if s0 = 0 then (Option.bind (mj_tab (σ.2.2.1 32) 200 v5) fun x81 =>
  kb_PM_joins_82 N c6 σ v1 v2 v3 (v4 + 1) v5 s0 v4 x81) else
  kb_PM_joins_82 N c6 σ v1 v2 v3 (v4 + 1) v5 s0 v4 v3
def kb_PM_joins_54 (N : Nat) (c6 : kS → Int32 → Int32 → Int32 → Int32 → Int32 → Option (Unit × kS)) (σ : kS) (v1 : Int32) (v2 : Int32) (v3 : Int32) (v4 : Int32) (v5 : Int32) : Option (Unit × kS) :=
  kb_PM_joins_55 N c6 σ v1 v2 v3 v4 v5 0
def kb_PM_joins_6 (N : Nat) : Nat → kS → Int32 → Int32 → Int32 → Int32 → Int32 → Option (Unit × kS)
  | 0, _, _, _, _, _, _ => none
  | n + 1, σ, v1, v2, v3, v4, v5 =>
    if (σ.1 31) ≤ v5 then (kk_let (kI σ 31 v4) fun s104 =>
    some ((), s104)) else
    if (σ.1 31) ≤ (v5 + 1) then (kb_PM_joins_54 N (kb_PM_joins_6 N n) σ v1 v2 v3 v4 v5) else
    Option.bind (mj_tab (σ.2.2.1 32) 200 v5) fun x32 =>
    if x32 = v1 then (Option.bind (mj_tab (σ.2.2.1 32) 200 (v5 + 1)) fun x45 =>
    if x45 = v2 then (kb_PM_joins_55 N (kb_PM_joins_6 N n) σ v1 v2 v3 v4 v5 1) else
    kb_PM_joins_54 N (kb_PM_joins_6 N n) σ v1 v2 v3 v4 v5) else
    kb_PM_joins_54 N (kb_PM_joins_6 N n) σ v1 v2 v3 v4 v5
def kb_PM_joins_0 (N : Nat) (σ : kS) (v1 : Int32) (v2 : Int32) (v3 : Int32) : Option (Unit × kS) :=
  kb_PM_joins_6 N N σ v1 v2 v3 0 0
def kf_PM_joins (N : Nat) (σ : kS) (v1 : Int32) (v2 : Int32) (v3 : Int32) : Option (Unit × kS) := kb_PM_joins_0 N σ v1 v2 v3
set_option maxHeartbeats 4000000 in
theorem lb_PM_joins_95 (o : Nat) (M : mv_M) (N : Nat) (k6 : mv_M → Nat → Int32 → Int32 → Int32 → Int32 → Int32 → Option (Unit × mv_M)) (c6 : kS → Int32 → Int32 → Int32 → Int32 → Int32 → Option (Unit × kS)) (hc6 : ∀ (σ : kS) (v1 : Int32) (v2 : Int32) (v3 : Int32) (v4 : Int32) (v5 : Int32), k6 (wr_PM o M σ) o v1 v2 v3 v4 v5 = (c6 σ v1 v2 v3 v4 v5).map (wq_PM o M))  (σ : kS) (v1 : Int32) (v2 : Int32) (v3 : Int32) (v4 : Int32) (s0 : Int32) (s1 : Int32) : jb_PM_joins_95 N k6 (wr_PM o M σ) o v1 v2 v3 v4 s0 s1 = (kb_PM_joins_95 N c6 σ v1 v2 v3 v4 s0 s1).map (wq_PM o M) := by
  unfold jb_PM_joins_95 kb_PM_joins_95
  exact hc6 _ _ _ _ _ _
set_option maxHeartbeats 4000000 in
theorem lb_PM_joins_82 (o : Nat) (M : mv_M) (N : Nat) (k6 : mv_M → Nat → Int32 → Int32 → Int32 → Int32 → Int32 → Option (Unit × mv_M)) (c6 : kS → Int32 → Int32 → Int32 → Int32 → Int32 → Option (Unit × kS)) (hc6 : ∀ (σ : kS) (v1 : Int32) (v2 : Int32) (v3 : Int32) (v4 : Int32) (v5 : Int32), k6 (wr_PM o M σ) o v1 v2 v3 v4 v5 = (c6 σ v1 v2 v3 v4 v5).map (wq_PM o M))  (σ : kS) (v1 : Int32) (v2 : Int32) (v3 : Int32) (v4 : Int32) (v5 : Int32) (v6 : Int32) (s1 : Int32) (s2 : Int32) : jb_PM_joins_82 N k6 (wr_PM o M σ) o v1 v2 v3 v4 v5 v6 (some (o + 17)) s1 s2 = (kb_PM_joins_82 N c6 σ v1 v2 v3 v4 v5 v6 s1 s2).map (wq_PM o M) := by
  unfold jb_PM_joins_82 kb_PM_joins_82
  rw [Option.bind_some]
  rw [wx_PM_32]
  refine km_gd (fun _ => ?_)
  refine km_let ?_
  refine km_ite (fun _ => ?_) (fun _ => ?_)
  · exact lb_PM_joins_95 o M N _ _ hc6 _ _ _ _ _ _ _
  · exact lb_PM_joins_95 o M N _ _ hc6 _ _ _ _ _ _ _
set_option maxHeartbeats 4000000 in
theorem lb_PM_joins_55 (o : Nat) (M : mv_M) (N : Nat) (k6 : mv_M → Nat → Int32 → Int32 → Int32 → Int32 → Int32 → Option (Unit × mv_M)) (c6 : kS → Int32 → Int32 → Int32 → Int32 → Int32 → Option (Unit × kS)) (hc6 : ∀ (σ : kS) (v1 : Int32) (v2 : Int32) (v3 : Int32) (v4 : Int32) (v5 : Int32), k6 (wr_PM o M σ) o v1 v2 v3 v4 v5 = (c6 σ v1 v2 v3 v4 v5).map (wq_PM o M))  (σ : kS) (v1 : Int32) (v2 : Int32) (v3 : Int32) (v4 : Int32) (v5 : Int32) (s0 : Int32) : jb_PM_joins_55 N k6 (wr_PM o M σ) o v1 v2 v3 v4 v5 s0 = (kb_PM_joins_55 N c6 σ v1 v2 v3 v4 v5 s0).map (wq_PM o M) := by
  unfold jb_PM_joins_55 kb_PM_joins_55
  first | rw [wg_PM_32, Option.bind_some] | rw [Option.bind_some]
  refine km_ite (fun _ => ?_) (fun _ => ?_)
  · first | rw [wg_PM_32, Option.bind_some] | rw [Option.bind_some]
    rw [Option.bind_some]
    try rw [wl_PM_32]
    refine km_bind (fun x81 => ?_)
    exact lb_PM_joins_82 o M N _ _ hc6 _ _ _ _ _ _ _ _ _
  · exact lb_PM_joins_82 o M N _ _ hc6 _ _ _ _ _ _ _ _ _
set_option maxHeartbeats 4000000 in
theorem lb_PM_joins_54 (o : Nat) (M : mv_M) (N : Nat) (k6 : mv_M → Nat → Int32 → Int32 → Int32 → Int32 → Int32 → Option (Unit × mv_M)) (c6 : kS → Int32 → Int32 → Int32 → Int32 → Int32 → Option (Unit × kS)) (hc6 : ∀ (σ : kS) (v1 : Int32) (v2 : Int32) (v3 : Int32) (v4 : Int32) (v5 : Int32), k6 (wr_PM o M σ) o v1 v2 v3 v4 v5 = (c6 σ v1 v2 v3 v4 v5).map (wq_PM o M))  (σ : kS) (v1 : Int32) (v2 : Int32) (v3 : Int32) (v4 : Int32) (v5 : Int32) : jb_PM_joins_54 N k6 (wr_PM o M σ) o v1 v2 v3 v4 v5 = (kb_PM_joins_54 N c6 σ v1 v2 v3 v4 v5).map (wq_PM o M) := by
  unfold jb_PM_joins_54 kb_PM_joins_54
  exact lb_PM_joins_55 o M N _ _ hc6 _ _ _ _ _ _ _
set_option maxHeartbeats 4000000 in
theorem lb_PM_joins_6 (o : Nat) (M : mv_M) (N : Nat) : ∀ (n : Nat) (σ : kS) (v1 : Int32) (v2 : Int32) (v3 : Int32) (v4 : Int32) (v5 : Int32), jb_PM_joins_6 N n (wr_PM o M σ) o v1 v2 v3 v4 v5 = (kb_PM_joins_6 N n σ v1 v2 v3 v4 v5).map (wq_PM o M) := by
  intro n
  induction n with
  | zero => intros; rfl
  | succ n ih =>
    intro σ v1 v2 v3 v4 v5
    rw [jb_PM_joins_6, kb_PM_joins_6]
    first | rw [wg_PM_31, Option.bind_some] | rw [Option.bind_some]
    refine km_ite (fun _ => ?_) (fun _ => ?_)
    · rw [wp_PM_31, Option.bind_some]
      refine km_let ?_
      rfl
    · first | rw [wg_PM_31, Option.bind_some] | rw [Option.bind_some]
      refine km_ite (fun _ => ?_) (fun _ => ?_)
      · exact lb_PM_joins_54 o M N _ _ ih _ _ _ _ _ _
      · first | rw [wg_PM_32, Option.bind_some] | rw [Option.bind_some]
        rw [Option.bind_some]
        try rw [wl_PM_32]
        refine km_bind (fun x32 => ?_)
        refine km_ite (fun _ => ?_) (fun _ => ?_)
        · first | rw [wg_PM_32, Option.bind_some] | rw [Option.bind_some]
          rw [Option.bind_some]
          try rw [wl_PM_32]
          refine km_bind (fun x45 => ?_)
          refine km_ite (fun _ => ?_) (fun _ => ?_)
          · exact lb_PM_joins_55 o M N _ _ ih _ _ _ _ _ _ _
          · exact lb_PM_joins_54 o M N _ _ ih _ _ _ _ _ _
        · exact lb_PM_joins_54 o M N _ _ ih _ _ _ _ _ _
set_option maxHeartbeats 4000000 in
theorem lb_PM_joins_0 (o : Nat) (M : mv_M) (N : Nat)  (σ : kS) (v1 : Int32) (v2 : Int32) (v3 : Int32) : jb_PM_joins_0 N (wr_PM o M σ) o v1 v2 v3 = (kb_PM_joins_0 N σ v1 v2 v3).map (wq_PM o M) := by
  unfold jb_PM_joins_0 kb_PM_joins_0
  exact lb_PM_joins_6 o M N N _ _ _ _ _ _
theorem lf_PM_joins (o : Nat) (M : mv_M) (N : Nat) (σ : kS) (v1 : Int32) (v2 : Int32) (v3 : Int32) : jf_PM_joins N (wr_PM o M σ) o v1 v2 v3 = (kf_PM_joins N σ v1 v2 v3).map (wq_PM o M) := lb_PM_joins_0 o M N σ v1 v2 v3
/-! ===== PlainLearnerModel.merge()I ===== -/
def kb_PM_merge_131 (N : Nat) (c9 : kS → Int32 → Int32 → Int32 → Int32 → Option (Int32 × kS)) (σ : kS) (v1 : Int32) (v2 : Int32) (v3 : Int32) (v4 : Int32) : Option (Int32 × kS) :=
  c9 σ v1 v2 v3 (v4 + 1)
def kb_PM_merge_110 (N : Nat) (c9 : kS → Int32 → Int32 → Int32 → Int32 → Option (Int32 × kS)) (σ : kS) (v4 : Int32) (v5 : Int32) : Option (Int32 × kS) :=
  Option.bind (mj_tab (σ.2.2.1 32) 200 v4) fun x119 =>
  Option.bind (mj_tab (σ.2.2.1 32) 200 (v4 + 1)) fun x129 =>
  kb_PM_merge_131 N c9 σ v5 x119 x129 v4
def kb_PM_merge_82 (N : Nat) (c9 : kS → Int32 → Int32 → Int32 → Int32 → Option (Int32 × kS)) (σ : kS) (v1 : Int32) (v2 : Int32) (v3 : Int32) (v4 : Int32) (v5 : Int32) (s0 : Int32) : Option (Int32 × kS) :=
  if v5 < 2 then (kb_PM_merge_131 N c9 σ v1 v2 v3 v4) else
  if v5 < v1 then (kb_PM_merge_131 N c9 σ v1 v2 v3 v4) else
  if v5 = v1 then (if s0 = 0 then (kb_PM_merge_131 N c9 σ v1 v2 v3 v4) else
  kb_PM_merge_110 N c9 σ v4 v5) else
  kb_PM_merge_110 N c9 σ v4 v5
def kb_PM_merge_77 (N : Nat) (c9 : kS → Int32 → Int32 → Int32 → Int32 → Option (Int32 × kS)) (σ : kS) (v1 : Int32) (v2 : Int32) (v3 : Int32) (v4 : Int32) (v5 : Int32) : Option (Int32 × kS) :=
  kb_PM_merge_82 N c9 σ v1 v2 v3 v4 v5 1
def kb_PM_merge_81 (N : Nat) (c9 : kS → Int32 → Int32 → Int32 → Int32 → Option (Int32 × kS)) (σ : kS) (v1 : Int32) (v2 : Int32) (v3 : Int32) (v4 : Int32) (v5 : Int32) : Option (Int32 × kS) :=
  kb_PM_merge_82 N c9 σ v1 v2 v3 v4 v5 0
def kb_PM_merge_9 (N : Nat) : Nat → kS → Int32 → Int32 → Int32 → Int32 → Option (Int32 × kS)
  | 0, _, _, _, _, _ => none
  | n + 1, σ, v1, v2, v3, v4 =>
    if (σ.1 31) ≤ (v4 + 1) then (if 2 ≤ v1 then (if (σ.1 33) = 60 then (some ((-3), σ)) else
    mj_gd (σ.1 33) 60 <| kk_let (kA σ 34 (σ.1 33).toNatClampNeg v2) fun s166 =>
    mj_gd (s166.1 33) 60 <| kk_let (kA s166 35 (s166.1 33).toNatClampNeg v3) fun s176 =>
    kk_call (kf_PM_joins N s176 v2 v3 (26 + (s176.1 33))) fun r187 s187 =>
    kk_let (kI s187 33 ((s187.1 33) + 1)) fun s200 =>
    some ((26 + (s187.1 33)), s200)) else
    some ((-2), σ)) else
    Option.bind (mj_tab (σ.2.2.1 32) 200 v4) fun x27 =>
    Option.bind (mj_tab (σ.2.2.1 32) 200 (v4 + 1)) fun x36 =>
    kk_call (kf_PM_often N σ x27 x36) fun r37 s37 =>
    Option.bind (mj_tab (s37.2.2.1 32) 200 v4) fun x48 =>
    if x48 < v2 then (kb_PM_merge_77 N (kb_PM_merge_9 N n) s37 v1 v2 v3 v4 r37) else
    Option.bind (mj_tab (s37.2.2.1 32) 200 v4) fun x59 =>
    if x59 = v2 then (Option.bind (mj_tab (s37.2.2.1 32) 200 (v4 + 1)) fun x72 =>
    if v3 ≤ x72 then (kb_PM_merge_81 N (kb_PM_merge_9 N n) s37 v1 v2 v3 v4 r37) else
    kb_PM_merge_77 N (kb_PM_merge_9 N n) s37 v1 v2 v3 v4 r37) else
    kb_PM_merge_81 N (kb_PM_merge_9 N n) s37 v1 v2 v3 v4 r37
def kb_PM_merge_0 (N : Nat) (σ : kS) : Option (Int32 × kS) :=
  kb_PM_merge_9 N N σ 1 0 0 0
def kf_PM_merge (N : Nat) (σ : kS) : Option (Int32 × kS) := kb_PM_merge_0 N σ
set_option maxHeartbeats 4000000 in
theorem lb_PM_merge_131 (o : Nat) (M : mv_M) (N : Nat) (k9 : mv_M → Nat → Int32 → Int32 → Int32 → Int32 → Option (Int32 × mv_M)) (c9 : kS → Int32 → Int32 → Int32 → Int32 → Option (Int32 × kS)) (hc9 : ∀ (σ : kS) (v1 : Int32) (v2 : Int32) (v3 : Int32) (v4 : Int32), k9 (wr_PM o M σ) o v1 v2 v3 v4 = (c9 σ v1 v2 v3 v4).map (wq_PM o M))  (σ : kS) (v1 : Int32) (v2 : Int32) (v3 : Int32) (v4 : Int32) : jb_PM_merge_131 N k9 (wr_PM o M σ) o v1 v2 v3 v4 = (kb_PM_merge_131 N c9 σ v1 v2 v3 v4).map (wq_PM o M) := by
  unfold jb_PM_merge_131 kb_PM_merge_131
  exact hc9 _ _ _ _ _
set_option maxHeartbeats 4000000 in
theorem lb_PM_merge_110 (o : Nat) (M : mv_M) (N : Nat) (k9 : mv_M → Nat → Int32 → Int32 → Int32 → Int32 → Option (Int32 × mv_M)) (c9 : kS → Int32 → Int32 → Int32 → Int32 → Option (Int32 × kS)) (hc9 : ∀ (σ : kS) (v1 : Int32) (v2 : Int32) (v3 : Int32) (v4 : Int32), k9 (wr_PM o M σ) o v1 v2 v3 v4 = (c9 σ v1 v2 v3 v4).map (wq_PM o M))  (σ : kS) (v4 : Int32) (v5 : Int32) : jb_PM_merge_110 N k9 (wr_PM o M σ) o v4 v5 = (kb_PM_merge_110 N c9 σ v4 v5).map (wq_PM o M) := by
  unfold jb_PM_merge_110 kb_PM_merge_110
  first | rw [wg_PM_32, Option.bind_some] | rw [Option.bind_some]
  rw [Option.bind_some]
  try rw [wl_PM_32]
  refine km_bind (fun x119 => ?_)
  first | rw [wg_PM_32, Option.bind_some] | rw [Option.bind_some]
  rw [Option.bind_some]
  try rw [wl_PM_32]
  refine km_bind (fun x129 => ?_)
  exact lb_PM_merge_131 o M N _ _ hc9 _ _ _ _ _
set_option maxHeartbeats 4000000 in
theorem lb_PM_merge_82 (o : Nat) (M : mv_M) (N : Nat) (k9 : mv_M → Nat → Int32 → Int32 → Int32 → Int32 → Option (Int32 × mv_M)) (c9 : kS → Int32 → Int32 → Int32 → Int32 → Option (Int32 × kS)) (hc9 : ∀ (σ : kS) (v1 : Int32) (v2 : Int32) (v3 : Int32) (v4 : Int32), k9 (wr_PM o M σ) o v1 v2 v3 v4 = (c9 σ v1 v2 v3 v4).map (wq_PM o M))  (σ : kS) (v1 : Int32) (v2 : Int32) (v3 : Int32) (v4 : Int32) (v5 : Int32) (s0 : Int32) : jb_PM_merge_82 N k9 (wr_PM o M σ) o v1 v2 v3 v4 v5 s0 = (kb_PM_merge_82 N c9 σ v1 v2 v3 v4 v5 s0).map (wq_PM o M) := by
  unfold jb_PM_merge_82 kb_PM_merge_82
  refine km_ite (fun _ => ?_) (fun _ => ?_)
  · exact lb_PM_merge_131 o M N _ _ hc9 _ _ _ _ _
  · refine km_ite (fun _ => ?_) (fun _ => ?_)
    · exact lb_PM_merge_131 o M N _ _ hc9 _ _ _ _ _
    · refine km_ite (fun _ => ?_) (fun _ => ?_)
      · refine km_ite (fun _ => ?_) (fun _ => ?_)
        · exact lb_PM_merge_131 o M N _ _ hc9 _ _ _ _ _
        · exact lb_PM_merge_110 o M N _ _ hc9 _ _ _
      · exact lb_PM_merge_110 o M N _ _ hc9 _ _ _
set_option maxHeartbeats 4000000 in
theorem lb_PM_merge_77 (o : Nat) (M : mv_M) (N : Nat) (k9 : mv_M → Nat → Int32 → Int32 → Int32 → Int32 → Option (Int32 × mv_M)) (c9 : kS → Int32 → Int32 → Int32 → Int32 → Option (Int32 × kS)) (hc9 : ∀ (σ : kS) (v1 : Int32) (v2 : Int32) (v3 : Int32) (v4 : Int32), k9 (wr_PM o M σ) o v1 v2 v3 v4 = (c9 σ v1 v2 v3 v4).map (wq_PM o M))  (σ : kS) (v1 : Int32) (v2 : Int32) (v3 : Int32) (v4 : Int32) (v5 : Int32) : jb_PM_merge_77 N k9 (wr_PM o M σ) o v1 v2 v3 v4 v5 = (kb_PM_merge_77 N c9 σ v1 v2 v3 v4 v5).map (wq_PM o M) := by
  unfold jb_PM_merge_77 kb_PM_merge_77
  exact lb_PM_merge_82 o M N _ _ hc9 _ _ _ _ _ _ _
set_option maxHeartbeats 4000000 in
theorem lb_PM_merge_81 (o : Nat) (M : mv_M) (N : Nat) (k9 : mv_M → Nat → Int32 → Int32 → Int32 → Int32 → Option (Int32 × mv_M)) (c9 : kS → Int32 → Int32 → Int32 → Int32 → Option (Int32 × kS)) (hc9 : ∀ (σ : kS) (v1 : Int32) (v2 : Int32) (v3 : Int32) (v4 : Int32), k9 (wr_PM o M σ) o v1 v2 v3 v4 = (c9 σ v1 v2 v3 v4).map (wq_PM o M))  (σ : kS) (v1 : Int32) (v2 : Int32) (v3 : Int32) (v4 : Int32) (v5 : Int32) : jb_PM_merge_81 N k9 (wr_PM o M σ) o v1 v2 v3 v4 v5 = (kb_PM_merge_81 N c9 σ v1 v2 v3 v4 v5).map (wq_PM o M) := by
  unfold jb_PM_merge_81 kb_PM_merge_81
  exact lb_PM_merge_82 o M N _ _ hc9 _ _ _ _ _ _ _
set_option maxHeartbeats 4000000 in
theorem lb_PM_merge_9 (o : Nat) (M : mv_M) (N : Nat) : ∀ (n : Nat) (σ : kS) (v1 : Int32) (v2 : Int32) (v3 : Int32) (v4 : Int32), jb_PM_merge_9 N n (wr_PM o M σ) o v1 v2 v3 v4 = (kb_PM_merge_9 N n σ v1 v2 v3 v4).map (wq_PM o M) := by
  intro n
  induction n with
  | zero => intros; rfl
  | succ n ih =>
    intro σ v1 v2 v3 v4
    rw [jb_PM_merge_9, kb_PM_merge_9]
    first | rw [wg_PM_31, Option.bind_some] | rw [Option.bind_some]
    refine km_ite (fun _ => ?_) (fun _ => ?_)
    · refine km_ite (fun _ => ?_) (fun _ => ?_)
      · first | rw [wg_PM_33, Option.bind_some] | rw [Option.bind_some]
        refine km_ite (fun _ => ?_) (fun _ => ?_)
        · rfl
        · first | rw [wg_PM_34, Option.bind_some] | rw [Option.bind_some]
          first | rw [wg_PM_33, Option.bind_some] | rw [Option.bind_some]
          rw [Option.bind_some]
          rw [wx_PM_34]
          refine km_gd (fun _ => ?_)
          refine km_let ?_
          skip
          first | rw [wg_PM_35, Option.bind_some] | rw [Option.bind_some]
          first | rw [wg_PM_33, Option.bind_some] | rw [Option.bind_some]
          rw [Option.bind_some]
          rw [wx_PM_35]
          refine km_gd (fun _ => ?_)
          refine km_let ?_
          skip
          first | rw [wg_PM_33, Option.bind_some] | rw [Option.bind_some]
          try rw [wo_PM]
          try rw [lf_PM_joins]
          refine km_call (fun r187 s187 => ?_)
          first | rw [wg_PM_33, Option.bind_some] | rw [Option.bind_some]
          rw [wp_PM_33, Option.bind_some]
          refine km_let ?_
          rfl
      · rfl
    · first | rw [wg_PM_32, Option.bind_some] | rw [Option.bind_some]
      rw [Option.bind_some]
      try rw [wl_PM_32]
      refine km_bind (fun x27 => ?_)
      first | rw [wg_PM_32, Option.bind_some] | rw [Option.bind_some]
      rw [Option.bind_some]
      try rw [wl_PM_32]
      refine km_bind (fun x36 => ?_)
      try rw [wo_PM]
      try rw [lf_PM_often]
      refine km_call (fun r37 s37 => ?_)
      first | rw [wg_PM_32, Option.bind_some] | rw [Option.bind_some]
      rw [Option.bind_some]
      try rw [wl_PM_32]
      refine km_bind (fun x48 => ?_)
      refine km_ite (fun _ => ?_) (fun _ => ?_)
      · exact lb_PM_merge_77 o M N _ _ ih _ _ _ _ _ _
      · first | rw [wg_PM_32, Option.bind_some] | rw [Option.bind_some]
        rw [Option.bind_some]
        try rw [wl_PM_32]
        refine km_bind (fun x59 => ?_)
        refine km_ite (fun _ => ?_) (fun _ => ?_)
        · first | rw [wg_PM_32, Option.bind_some] | rw [Option.bind_some]
          rw [Option.bind_some]
          try rw [wl_PM_32]
          refine km_bind (fun x72 => ?_)
          refine km_ite (fun _ => ?_) (fun _ => ?_)
          · exact lb_PM_merge_81 o M N _ _ ih _ _ _ _ _ _
          · exact lb_PM_merge_77 o M N _ _ ih _ _ _ _ _ _
        · exact lb_PM_merge_81 o M N _ _ ih _ _ _ _ _ _
set_option maxHeartbeats 4000000 in
theorem lb_PM_merge_0 (o : Nat) (M : mv_M) (N : Nat)  (σ : kS) : jb_PM_merge_0 N (wr_PM o M σ) o = (kb_PM_merge_0 N σ).map (wq_PM o M) := by
  unfold jb_PM_merge_0 kb_PM_merge_0
  exact lb_PM_merge_9 o M N N _ _ _ _ _
theorem lf_PM_merge (o : Nat) (M : mv_M) (N : Nat) (σ : kS) : jf_PM_merge N (wr_PM o M σ) o = (kf_PM_merge N σ).map (wq_PM o M) := lb_PM_merge_0 o M N σ
