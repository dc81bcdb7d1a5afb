/-! ===== PlainLearnerModel.act(III)I ===== -/
def kb_PM_act_43 (N : Nat) (σ : kS) : Option (Int32 × kS) :=
  some ((-1), σ)
def kb_PM_act_94 (N : Nat) (σ : kS) : Option (Int32 × kS) :=
  some ((-3), σ)
def kb_PM_act_143 (N : Nat) : Nat → kS → Int32 → Option (Int32 × kS)
  | 0, _, _ => none
  | n + 1, σ, v5 =>
    if (σ.1 11) ≤ v5 then (kk_let (kI σ 2 ((σ.1 2) + 1)) fun s187 =>
    some ((σ.1 2), s187)) else
    Option.bind (mj_tab (σ.2.2.1 12) 3 v5) fun x171 =>
    mj_gd ((3 * (σ.1 2)) + v5) 150 <| kk_let (kA σ 7 ((3 * (σ.1 2)) + v5).toNatClampNeg x171) fun s172 =>
    kb_PM_act_143 N n s172 (v5 + 1)
def kb_PM_act_51 (N : Nat) : Nat → kS → Int32 → Int32 → Int32 → Int32 → Int32 → Option (Int32 × kS)
  | 0, _, _, _, _, _, _ => none
  | n + 1, σ, v1, v2, v3, v4, v5 =>
    if (σ.1 11) ≤ v5 then (if (σ.1 2) = 50 then (kb_PM_act_94 N σ) else
    if v4 ≤ 64 then (mj_gd (σ.1 2) 50 <| kk_let (kA σ 3 (σ.1 2).toNatClampNeg v1) fun s106 =>
    mj_gd (s106.1 2) 50 <| kk_let (kA s106 4 (s106.1 2).toNatClampNeg v2) fun s116 =>
    mj_gd (s116.1 2) 50 <| kk_let (kA s116 5 (s116.1 2).toNatClampNeg v3) fun s126 =>
    mj_gd (s126.1 2) 50 <| kk_let (kA s126 6 (s126.1 2).toNatClampNeg (s126.1 11)) fun s139 =>
    kb_PM_act_143 N N s139 0) else
    kb_PM_act_94 N σ) else
    Option.bind (mj_tab (σ.2.2.1 12) 3 v5) fun x68 =>
    kb_PM_act_51 N n σ v1 v2 v3 (v4 * x68) (v5 + 1)
def kb_PM_act_33 (N : Nat) (σ : kS) (v1 : Int32) (v2 : Int32) (v3 : Int32) : Option (Int32 × kS) :=
  kk_call (kf_PM_fits N σ v1 v2 v3) fun r37 s37 =>
  if r37 = 0 then (kb_PM_act_43 N s37) else
  kb_PM_act_51 N N s37 v1 v2 v3 1 0
def kb_PM_act_0 (N : Nat) (σ : kS) (v1 : Int32) (v2 : Int32) (v3 : Int32) : Option (Int32 × kS) :=
  Option.bind (kf_PM_isIn N v1.toInt64 0 15) fun r6 =>
  if r6 = 0 then (kb_PM_act_43 N σ) else
  kk_call (kf_PM_isNode N σ v2) fun r14 s14 =>
  if r14 = 0 then (kb_PM_act_43 N s14) else
  if 5 ≤ v1 then (kb_PM_act_33 N s14 v1 v2 v3) else
  kk_call (kf_PM_isNode N s14 v3) fun r27 s27 =>
  if r27 = 0 then (kb_PM_act_43 N s27) else
  kb_PM_act_33 N s27 v1 v2 v3
def kf_PM_act (N : Nat) (σ : kS) (v1 : Int32) (v2 : Int32) (v3 : Int32) : Option (Int32 × kS) := kb_PM_act_0 N σ v1 v2 v3
set_option maxHeartbeats 4000000 in
theorem lb_PM_act_43 (o : Nat) (M : mv_M) (N : Nat)  (σ : kS) : jb_PM_act_43 N (wr_PM o M σ) = (kb_PM_act_43 N σ).map (wq_PM o M) := by
  unfold jb_PM_act_43 kb_PM_act_43
  rfl
set_option maxHeartbeats 4000000 in
theorem lb_PM_act_94 (o : Nat) (M : mv_M) (N : Nat)  (σ : kS) : jb_PM_act_94 N (wr_PM o M σ) = (kb_PM_act_94 N σ).map (wq_PM o M) := by
  unfold jb_PM_act_94 kb_PM_act_94
  rfl
set_option maxHeartbeats 4000000 in
theorem lb_PM_act_143 (o : Nat) (M : mv_M) (N : Nat) : ∀ (n : Nat) (σ : kS) (v5 : Int32), jb_PM_act_143 N n (wr_PM o M σ) o v5 = (kb_PM_act_143 N n σ v5).map (wq_PM o M) := by
  intro n
  induction n with
  | zero => intros; rfl
  | succ n ih =>
    intro σ v5
    rw [jb_PM_act_143, kb_PM_act_143]
    first | rw [wg_PM_11, Option.bind_some] | rw [Option.bind_some]
    refine km_ite (fun _ => ?_) (fun _ => ?_)
    · first | rw [wg_PM_2, Option.bind_some] | rw [Option.bind_some]
      rw [wp_PM_2, Option.bind_some]
      refine km_let ?_
      rfl
    · first | rw [wg_PM_7, Option.bind_some] | rw [Option.bind_some]
      first | rw [wg_PM_2, Option.bind_some] | rw [Option.bind_some]
      first | rw [wg_PM_12, Option.bind_some] | rw [Option.bind_some]
      rw [Option.bind_some]
      try rw [wl_PM_12]
      refine km_bind (fun x171 => ?_)
      rw [Option.bind_some]
      rw [wx_PM_7]
      refine km_gd (fun _ => ?_)
      refine km_let ?_
      skip
      exact ih _ _
set_option maxHeartbeats 4000000 in
theorem lb_PM_act_51 (o : Nat) (M : mv_M) (N : Nat) : ∀ (n : Nat) (σ : kS) (v1 : Int32) (v2 : Int32) (v3 : Int32) (v4 : Int32) (v5 : Int32), jb_PM_act_51 N n (wr_PM o M σ) o v1 v2 v3 v4 v5 = (kb_PM_act_51 N n σ v1 v2 v3 v4 v5).map (wq_PM o M) := by
  intro n
  induction n with
  | zero => intros; rfl
  | succ n ih =>
    intro σ v1 v2 v3 v4 v5
    rw [jb_PM_act_51, kb_PM_act_51]
    first | rw [wg_PM_11, Option.bind_some] | rw [Option.bind_some]
    refine km_ite (fun _ => ?_) (fun _ => ?_)
    · first | rw [wg_PM_2, Option.bind_some] | rw [Option.bind_some]
      refine km_ite (fun _ => ?_) (fun _ => ?_)
      · exact lb_PM_act_94 o M N _
      · refine km_ite (fun _ => ?_) (fun _ => ?_)
        · first | rw [wg_PM_3, Option.bind_some] | rw [Option.bind_some]
          first | rw [wg_PM_2, Option.bind_some] | rw [Option.bind_some]
          rw [Option.bind_some]
          rw [wx_PM_3]
          refine km_gd (fun _ => ?_)
          refine km_let ?_
          skip
          first | rw [wg_PM_4, Option.bind_some] | rw [Option.bind_some]
          first | rw [wg_PM_2, Option.bind_some] | rw [Option.bind_some]
          rw [Option.bind_some]
          rw [wx_PM_4]
          refine km_gd (fun _ => ?_)
          refine km_let ?_
          skip
          first | rw [wg_PM_5, Option.bind_some] | rw [Option.bind_some]
          first | rw [wg_PM_2, Option.bind_some] | rw [Option.bind_some]
          rw [Option.bind_some]
          rw [wx_PM_5]
          refine km_gd (fun _ => ?_)
          refine km_let ?_
          skip
          first | rw [wg_PM_6, Option.bind_some] | rw [Option.bind_some]
          first | rw [wg_PM_2, Option.bind_some] | rw [Option.bind_some]
          first | rw [wg_PM_11, Option.bind_some] | rw [Option.bind_some]
          rw [Option.bind_some]
          rw [wx_PM_6]
          refine km_gd (fun _ => ?_)
          refine km_let ?_
          skip
          exact lb_PM_act_143 o M N N _ _
        · exact lb_PM_act_94 o M N _
    · first | rw [wg_PM_12, Option.bind_some] | rw [Option.bind_some]
      rw [Option.bind_some]
      try rw [wl_PM_12]
      refine km_bind (fun x68 => ?_)
      exact ih _ _ _ _ _ _
set_option maxHeartbeats 4000000 in
theorem lb_PM_act_33 (o : Nat) (M : mv_M) (N : Nat)  (σ : kS) (v1 : Int32) (v2 : Int32) (v3 : Int32) : jb_PM_act_33 N (wr_PM o M σ) o v1 v2 v3 = (kb_PM_act_33 N σ v1 v2 v3).map (wq_PM o M) := by
  unfold jb_PM_act_33 kb_PM_act_33
  try rw [wo_PM]
  try rw [lf_PM_fits]
  refine km_call (fun r37 s37 => ?_)
  refine km_ite (fun _ => ?_) (fun _ => ?_)
  · exact lb_PM_act_43 o M N _
  · exact lb_PM_act_51 o M N N _ _ _ _ _ _
set_option maxHeartbeats 4000000 in
theorem lb_PM_act_0 (o : Nat) (M : mv_M) (N : Nat)  (σ : kS) (v1 : Int32) (v2 : Int32) (v3 : Int32) : jb_PM_act_0 N (wr_PM o M σ) o v1 v2 v3 = (kb_PM_act_0 N σ v1 v2 v3).map (wq_PM o M) := by
  unfold jb_PM_act_0 kb_PM_act_0
  try rw [lf_PM_isIn]
  refine km_callP (fun r6 => ?_)
  refine km_ite (fun _ => ?_) (fun _ => ?_)
  · exact lb_PM_act_43 o M N _
  · try rw [wo_PM]
    try rw [lf_PM_isNode]
    refine km_call (fun r14 s14 => ?_)
    refine km_ite (fun _ => ?_) (fun _ => ?_)
    · exact lb_PM_act_43 o M N _
    · refine km_ite (fun _ => ?_) (fun _ => ?_)
      · exact lb_PM_act_33 o M N _ _ _ _
      · try rw [wo_PM]
        try rw [lf_PM_isNode]
        refine km_call (fun r27 s27 => ?_)
        refine km_ite (fun _ => ?_) (fun _ => ?_)
        · exact lb_PM_act_43 o M N _
        · exact lb_PM_act_33 o M N _ _ _ _
theorem lf_PM_act (o : Nat) (M : mv_M) (N : Nat) (σ : kS) (v1 : Int32) (v2 : Int32) (v3 : Int32) : jf_PM_act N (wr_PM o M σ) o v1 v2 v3 = (kf_PM_act N σ v1 v2 v3).map (wq_PM o M) := lb_PM_act_0 o M N σ v1 v2 v3
/-! ===== PlainLearnerModel.node(II)I ===== -/
def kb_PM_node_20 (N : Nat) (σ : kS) : Option (Int32 × kS) :=
  some ((-1), σ)
def kb_PM_node_0 (N : Nat) (σ : kS) (v1 : Int32) (v2 : Int32) : Option (Int32 × kS) :=
  kk_call (kf_PM_isNode N σ v1) fun r2 s2 =>
  if r2 = 0 then (kb_PM_node_20 N s2) else
  Option.bind (kf_PM_isIn N v2.toInt64 0 7) fun r14 =>
  if r14 = 0 then (kb_PM_node_20 N s2) else
  if v2 = 0 then (Option.bind (mj_tab (s2.2.2.1 6) 50 v1) fun x69 =>
  some (x69, s2)) else
  if v2 = 1 then (kk_call (kf_PM_sideOf N s2 v1 (v2 - 1)) fun r76 s76 =>
  some (r76, s76)) else
  if v2 = 2 then (kk_call (kf_PM_sideOf N s2 v1 (v2 - 1)) fun r76 s76 =>
  some (r76, s76)) else
  if v2 = 3 then (kk_call (kf_PM_sideOf N s2 v1 (v2 - 1)) fun r76 s76 =>
  some (r76, s76)) else
  if v2 = 4 then (kk_call (kf_PM_cells N s2 v1) fun r82 s82 =>
  some (r82, s82)) else
  if v2 = 5 then (Option.bind (mj_tab (s2.2.2.1 3) 50 v1) fun x91 =>
  some (x91, s2)) else
  if v2 = 6 then (Option.bind (mj_tab (s2.2.2.1 4) 50 v1) fun x98 =>
  some (x98, s2)) else
  Option.bind (mj_tab (s2.2.2.1 5) 50 v1) fun x105 =>
  some (x105, s2)
def kf_PM_node (N : Nat) (σ : kS) (v1 : Int32) (v2 : Int32) : Option (Int32 × kS) := kb_PM_node_0 N σ v1 v2
set_option maxHeartbeats 4000000 in
theorem lb_PM_node_20 (o : Nat) (M : mv_M) (N : Nat)  (σ : kS) : jb_PM_node_20 N (wr_PM o M σ) = (kb_PM_node_20 N σ).map (wq_PM o M) := by
  unfold jb_PM_node_20 kb_PM_node_20
  rfl
set_option maxHeartbeats 4000000 in
theorem lb_PM_node_0 (o : Nat) (M : mv_M) (N : Nat)  (σ : kS) (v1 : Int32) (v2 : Int32) : jb_PM_node_0 N (wr_PM o M σ) o v1 v2 = (kb_PM_node_0 N σ v1 v2).map (wq_PM o M) := by
  unfold jb_PM_node_0 kb_PM_node_0
  try rw [wo_PM]
  try rw [lf_PM_isNode]
  refine km_call (fun r2 s2 => ?_)
  refine km_ite (fun _ => ?_) (fun _ => ?_)
  · exact lb_PM_node_20 o M N _
  · try rw [lf_PM_isIn]
    refine km_callP (fun r14 => ?_)
    refine km_ite (fun _ => ?_) (fun _ => ?_)
    · exact lb_PM_node_20 o M N _
    · refine km_ite (fun _ => ?_) (fun _ => ?_)
      · first | rw [wg_PM_6, Option.bind_some] | rw [Option.bind_some]
        rw [Option.bind_some]
        try rw [wl_PM_6]
        refine km_bind (fun x69 => ?_)
        rfl
      refine km_ite (fun _ => ?_) (fun _ => ?_)
      · try rw [wo_PM]
        try rw [lf_PM_sideOf]
        refine km_call (fun r76 s76 => ?_)
        rfl
      refine km_ite (fun _ => ?_) (fun _ => ?_)
      · try rw [wo_PM]
        try rw [lf_PM_sideOf]
        refine km_call (fun r76 s76 => ?_)
        rfl
      refine km_ite (fun _ => ?_) (fun _ => ?_)
      · try rw [wo_PM]
        try rw [lf_PM_sideOf]
        refine km_call (fun r76 s76 => ?_)
        rfl
      refine km_ite (fun _ => ?_) (fun _ => ?_)
      · try rw [wo_PM]
        try rw [lf_PM_cells]
        refine km_call (fun r82 s82 => ?_)
        rfl
      refine km_ite (fun _ => ?_) (fun _ => ?_)
      · first | rw [wg_PM_3, Option.bind_some] | rw [Option.bind_some]
        rw [Option.bind_some]
        try rw [wl_PM_3]
        refine km_bind (fun x91 => ?_)
        rfl
      refine km_ite (fun _ => ?_) (fun _ => ?_)
      · first | rw [wg_PM_4, Option.bind_some] | rw [Option.bind_some]
        rw [Option.bind_some]
        try rw [wl_PM_4]
        refine km_bind (fun x98 => ?_)
        rfl
      first | rw [wg_PM_5, Option.bind_some] | rw [Option.bind_some]
      rw [Option.bind_some]
      try rw [wl_PM_5]
      refine km_bind (fun x105 => ?_)
      rfl
theorem lf_PM_node (o : Nat) (M : mv_M) (N : Nat) (σ : kS) (v1 : Int32) (v2 : Int32) : jf_PM_node N (wr_PM o M σ) o v1 v2 = (kf_PM_node N σ v1 v2).map (wq_PM o M) := lb_PM_node_0 o M N σ v1 v2
/-! ===== PlainLearnerModel.spreadCell(III)I ===== -/
def kb_PM_spreadCell_97 (N : Nat) (c12 : kS → Int32 → Int32 → Int32 → Int32 → Int32 → Int32 → Option (Int32 × kS)) (σ : kS) (v1 : Int32) (v3 : Int32) (v4 : Int32) (v5 : Int32) (v6 : Int32) (v7 : Int32) (v8 : Int32) (v9 : Int32) : Option (Int32 × kS) :=
  if v8 = 0 then none else
  c12 σ v1 v3 (v4 / v8) v5 (v6 * v9) (v7 + 1)
def kb_PM_spreadCell_76 (N : Nat) (c12 : kS → Int32 → Int32 → Int32 → Int32 → Int32 → Int32 → Option (Int32 × kS)) (σ : kS) (v1 : Int32) (v3 : Int32) (v4 : Int32) (v5 : Int32) (v6 : Int32) (v7 : Int32) (v8 : Int32) (s0 : Int32) : Option (Int32 × kS) :=
  if s0 ≤ 1 then (kb_PM_spreadCell_97 N c12 σ v1 v3 v4 v5 v6 v7 v8 s0) else
  if v8 = 0 then none else
  kb_PM_spreadCell_97 N c12 σ v1 v3 v4 (v5 + ((v4 - v4 / v8 * v8) * v6)) v6 v7 v8 s0
def kb_PM_spreadCell_12 (N : Nat) : Nat → kS → Int32 → Int32 → Int32 → Int32 → Int32 → Int32 → Option (Int32 × kS)
  | 0, _, _, _, _, _, _, _ => none
  | n + 1, σ, v1, v3, v4, v5, v6, v7 =>
    Option.bind (mj_tab (σ.2.2.1 6) 50 v1) fun x19 =>
    if x19 < v7 then (some (v5, σ)) else
    Option.bind (mj_tab (σ.2.2.1 6) 50 v1) fun x35 =>
    Option.bind (mj_tab (σ.2.2.1 7) 150 (((3 * v1) + x35) - v7)) fun x40 =>
    Option.bind (mj_tab (σ.2.2.1 6) 50 v3) fun x50 =>
    if x50 < v7 then (kb_PM_spreadCell_76 N (kb_PM_spreadCell_12 N n) σ v1 v3 v4 v5 v6 v7 x40 1) else
    Option.bind (mj_tab (σ.2.2.1 6) 50 v3) fun x66 =>
    Option.bind (mj_tab (σ.2.2.1 7) 150 (((3 * v3) + x66) - v7)) fun x71 =>
    kb_PM_spreadCell_76 N (kb_PM_spreadCell_12 N n) σ v1 v3 v4 v5 v6 v7 x40 x71
def kb_PM_spreadCell_0 (N : Nat) (σ : kS) (v1 : Int32) (v2 : Int32) (v3 : Int32) : Option (Int32 × kS) :=
  kb_PM_spreadCell_12 N N σ v1 v3 v2 0 1 1
def kf_PM_spreadCell (N : Nat) (σ : kS) (v1 : Int32) (v2 : Int32) (v3 : Int32) : Option (Int32 × kS) := kb_PM_spreadCell_0 N σ v1 v2 v3
set_option maxHeartbeats 4000000 in
theorem lb_PM_spreadCell_97 (o : Nat) (M : mv_M) (N : Nat) (k12 : mv_M → Nat → Int32 → Int32 → Int32 → Int32 → Int32 → Int32 → Option (Int32 × mv_M)) (c12 : kS → Int32 → Int32 → Int32 → Int32 → Int32 → Int32 → Option (Int32 × kS)) (hc12 : ∀ (σ : kS) (v1 : Int32) (v3 : Int32) (v4 : Int32) (v5 : Int32) (v6 : Int32) (v7 : Int32), k12 (wr_PM o M σ) o v1 v3 v4 v5 v6 v7 = (c12 σ v1 v3 v4 v5 v6 v7).map (wq_PM o M))  (σ : kS) (v1 : Int32) (v3 : Int32) (v4 : Int32) (v5 : Int32) (v6 : Int32) (v7 : Int32) (v8 : Int32) (v9 : Int32) : jb_PM_spreadCell_97 N k12 (wr_PM o M σ) o v1 v3 v4 v5 v6 v7 v8 v9 = (kb_PM_spreadCell_97 N c12 σ v1 v3 v4 v5 v6 v7 v8 v9).map (wq_PM o M) := by
  unfold jb_PM_spreadCell_97 kb_PM_spreadCell_97
  refine km_ite (fun _ => rfl) (fun _ => ?_)
  exact hc12 _ _ _ _ _ _ _
set_option maxHeartbeats 4000000 in
theorem lb_PM_spreadCell_76 (o : Nat) (M : mv_M) (N : Nat) (k12 : mv_M → Nat → Int32 → Int32 → Int32 → Int32 → Int32 → Int32 → Option (Int32 × mv_M)) (c12 : kS → Int32 → Int32 → Int32 → Int32 → Int32 → Int32 → Option (Int32 × kS)) (hc12 : ∀ (σ : kS) (v1 : Int32) (v3 : Int32) (v4 : Int32) (v5 : Int32) (v6 : Int32) (v7 : Int32), k12 (wr_PM o M σ) o v1 v3 v4 v5 v6 v7 = (c12 σ v1 v3 v4 v5 v6 v7).map (wq_PM o M))  (σ : kS) (v1 : Int32) (v3 : Int32) (v4 : Int32) (v5 : Int32) (v6 : Int32) (v7 : Int32) (v8 : Int32) (s0 : Int32) : jb_PM_spreadCell_76 N k12 (wr_PM o M σ) o v1 v3 v4 v5 v6 v7 v8 s0 = (kb_PM_spreadCell_76 N c12 σ v1 v3 v4 v5 v6 v7 v8 s0).map (wq_PM o M) := by
  unfold jb_PM_spreadCell_76 kb_PM_spreadCell_76
  refine km_ite (fun _ => ?_) (fun _ => ?_)
  · exact lb_PM_spreadCell_97 o M N _ _ hc12 _ _ _ _ _ _ _ _ _
  · refine km_ite (fun _ => rfl) (fun _ => ?_)
    exact lb_PM_spreadCell_97 o M N _ _ hc12 _ _ _ _ _ _ _ _ _
set_option maxHeartbeats 4000000 in
theorem lb_PM_spreadCell_12 (o : Nat) (M : mv_M) (N : Nat) : ∀ (n : Nat) (σ : kS) (v1 : Int32) (v3 : Int32) (v4 : Int32) (v5 : Int32) (v6 : Int32) (v7 : Int32), jb_PM_spreadCell_12 N n (wr_PM o M σ) o v1 v3 v4 v5 v6 v7 = (kb_PM_spreadCell_12 N n σ v1 v3 v4 v5 v6 v7).map (wq_PM o M) := by
  intro n
  induction n with
  | zero => intros; rfl
  | succ n ih =>
    intro σ v1 v3 v4 v5 v6 v7
    rw [jb_PM_spreadCell_12, kb_PM_spreadCell_12]
    first | rw [wg_PM_6, Option.bind_some] | rw [Option.bind_some]
    rw [Option.bind_some]
    try rw [wl_PM_6]
    refine km_bind (fun x19 => ?_)
    refine km_ite (fun _ => ?_) (fun _ => ?_)
    · rfl
    · first | rw [wg_PM_7, Option.bind_some] | rw [Option.bind_some]
      first | rw [wg_PM_6, Option.bind_some] | rw [Option.bind_some]
      rw [Option.bind_some]
      try rw [wl_PM_6]
      refine km_bind (fun x35 => ?_)
      rw [Option.bind_some]
      try rw [wl_PM_7]
      refine km_bind (fun x40 => ?_)
      first | rw [wg_PM_6, Option.bind_some] | rw [Option.bind_some]
      rw [Option.bind_some]
      try rw [wl_PM_6]
      refine km_bind (fun x50 => ?_)
      refine km_ite (fun _ => ?_) (fun _ => ?_)
      · exact lb_PM_spreadCell_76 o M N _ _ ih _ _ _ _ _ _ _ _ _
      · first | rw [wg_PM_7, Option.bind_some] | rw [Option.bind_some]
        first | rw [wg_PM_6, Option.bind_some] | rw [Option.bind_some]
        rw [Option.bind_some]
        try rw [wl_PM_6]
        refine km_bind (fun x66 => ?_)
        rw [Option.bind_some]
        try rw [wl_PM_7]
        refine km_bind (fun x71 => ?_)
        exact lb_PM_spreadCell_76 o M N _ _ ih _ _ _ _ _ _ _ _ _
set_option maxHeartbeats 4000000 in
theorem lb_PM_spreadCell_0 (o : Nat) (M : mv_M) (N : Nat)  (σ : kS) (v1 : Int32) (v2 : Int32) (v3 : Int32) : jb_PM_spreadCell_0 N (wr_PM o M σ) o v1 v2 v3 = (kb_PM_spreadCell_0 N σ v1 v2 v3).map (wq_PM o M) := by
  unfold jb_PM_spreadCell_0 kb_PM_spreadCell_0
  exact lb_PM_spreadCell_12 o M N N _ _ _ _ _ _ _
theorem lf_PM_spreadCell (o : Nat) (M : mv_M) (N : Nat) (σ : kS) (v1 : Int32) (v2 : Int32) (v3 : Int32) : jf_PM_spreadCell N (wr_PM o M σ) o v1 v2 v3 = (kf_PM_spreadCell N σ v1 v2 v3).map (wq_PM o M) := lb_PM_spreadCell_0 o M N σ v1 v2 v3
/-! ===== PlainLearnerModel.alongCell(IIII)I ===== -/
def kb_PM_alongCell_8 (N : Nat) : Nat → kS → Int32 → Int32 → Int32 → Int32 → Int32 → Int32 → Option (Int32 × kS)
  | 0, _, _, _, _, _, _, _ => none
  | n + 1, σ, v1, v2, v3, v4, v5, v6 =>
    Option.bind (mj_tab (σ.2.2.1 6) 50 v1) fun x15 =>
    if x15 ≤ v6 then (if v5 = 0 then none else
    Option.bind (mj_tab (σ.2.2.1 7) 150 ((3 * v1) + v2)) fun x54 =>
    if v5 = 0 then none else
    some ((((((v3 / v5) * x54) + v4) * v5) + (v3 - v3 / v5 * v5)), σ)) else
    Option.bind (mj_tab (σ.2.2.1 7) 150 ((3 * v1) + v6)) fun x31 =>
    kb_PM_alongCell_8 N n σ v1 v2 v3 v4 (v5 * x31) (v6 + 1)
def kb_PM_alongCell_0 (N : Nat) (σ : kS) (v1 : Int32) (v2 : Int32) (v3 : Int32) (v4 : Int32) : Option (Int32 × kS) :=
  kb_PM_alongCell_8 N N σ v1 v2 v3 v4 1 (v2 + 1)
def kf_PM_alongCell (N : Nat) (σ : kS) (v1 : Int32) (v2 : Int32) (v3 : Int32) (v4 : Int32) : Option (Int32 × kS) := kb_PM_alongCell_0 N σ v1 v2 v3 v4
set_option maxHeartbeats 4000000 in
theorem lb_PM_alongCell_8 (o : Nat) (M : mv_M) (N : Nat) : ∀ (n : Nat) (σ : kS) (v1 : Int32) (v2 : Int32) (v3 : Int32) (v4 : Int32) (v5 : Int32) (v6 : Int32), jb_PM_alongCell_8 N n (wr_PM o M σ) o v1 v2 v3 v4 v5 v6 = (kb_PM_alongCell_8 N n σ v1 v2 v3 v4 v5 v6).map (wq_PM o M) := by
  intro n
  induction n with
  | zero => intros; rfl
  | succ n ih =>
    intro σ v1 v2 v3 v4 v5 v6
    rw [jb_PM_alongCell_8, kb_PM_alongCell_8]
    first | rw [wg_PM_6, Option.bind_some] | rw [Option.bind_some]
    rw [Option.bind_some]
    try rw [wl_PM_6]
    refine km_bind (fun x15 => ?_)
    refine km_ite (fun _ => ?_) (fun _ => ?_)
    · refine km_ite (fun _ => rfl) (fun _ => ?_)
      first | rw [wg_PM_7, Option.bind_some] | rw [Option.bind_some]
      rw [Option.bind_some]
      try rw [wl_PM_7]
      refine km_bind (fun x54 => ?_)
      refine km_ite (fun _ => rfl) (fun _ => ?_)
      rfl
    · first | rw [wg_PM_7, Option.bind_some] | rw [Option.bind_some]
      rw [Option.bind_some]
      try rw [wl_PM_7]
      refine km_bind (fun x31 => ?_)
      exact ih _ _ _ _ _ _ _
set_option maxHeartbeats 4000000 in
theorem lb_PM_alongCell_0 (o : Nat) (M : mv_M) (N : Nat)  (σ : kS) (v1 : Int32) (v2 : Int32) (v3 : Int32) (v4 : Int32) : jb_PM_alongCell_0 N (wr_PM o M σ) o v1 v2 v3 v4 = (kb_PM_alongCell_0 N σ v1 v2 v3 v4).map (wq_PM o M) := by
  unfold jb_PM_alongCell_0 kb_PM_alongCell_0
  exact lb_PM_alongCell_8 o M N N _ _ _ _ _ _ _
theorem lf_PM_alongCell (o : Nat) (M : mv_M) (N : Nat) (σ : kS) (v1 : Int32) (v2 : Int32) (v3 : Int32) (v4 : Int32) : jf_PM_alongCell N (wr_PM o M σ) o v1 v2 v3 v4 = (kf_PM_alongCell N σ v1 v2 v3 v4).map (wq_PM o M) := lb_PM_alongCell_0 o M N σ v1 v2 v3 v4
/-! ===== PlainLearnerModel.turnedCell(II)I ===== -/
def kb_PM_turnedCell_0 (N : Nat) (σ : kS) (v1 : Int32) (v2 : Int32) : Option (Int32 × kS) :=
  Option.bind (mj_tab (σ.2.2.1 6) 50 v1) fun x12 =>
  Option.bind (mj_tab (σ.2.2.1 7) 150 (((3 * v1) + x12) - 2)) fun x16 =>
  Option.bind (mj_tab (σ.2.2.1 6) 50 v1) fun x30 =>
  Option.bind (mj_tab (σ.2.2.1 7) 150 (((3 * v1) + x30) - 1)) fun x34 =>
  if (x16 * x34) = 0 then none else
  if (x16 * x34) = 0 then none else
  if x16 = 0 then none else
  if x16 = 0 then none else
  some (((((v2 / (x16 * x34)) * (x16 * x34)) + (((v2 - v2 / (x16 * x34) * (x16 * x34)) - (v2 - v2 / (x16 * x34) * (x16 * x34)) / x16 * x16) * x34)) + ((v2 - v2 / (x16 * x34) * (x16 * x34)) / x16)), σ)
def kf_PM_turnedCell (N : Nat) (σ : kS) (v1 : Int32) (v2 : Int32) : Option (Int32 × kS) := kb_PM_turnedCell_0 N σ v1 v2
set_option maxHeartbeats 4000000 in
theorem lb_PM_turnedCell_0 (o : Nat) (M : mv_M) (N : Nat)  (σ : kS) (v1 : Int32) (v2 : Int32) : jb_PM_turnedCell_0 N (wr_PM o M σ) o v1 v2 = (kb_PM_turnedCell_0 N σ v1 v2).map (wq_PM o M) := by
  unfold jb_PM_turnedCell_0 kb_PM_turnedCell_0
  first | rw [wg_PM_7, Option.bind_some] | rw [Option.bind_some]
  first | rw [wg_PM_6, Option.bind_some] | rw [Option.bind_some]
  rw [Option.bind_some]
  try rw [wl_PM_6]
  refine km_bind (fun x12 => ?_)
  rw [Option.bind_some]
  try rw [wl_PM_7]
  refine km_bind (fun x16 => ?_)
  first | rw [wg_PM_7, Option.bind_some] | rw [Option.bind_some]
  first | rw [wg_PM_6, Option.bind_some] | rw [Option.bind_some]
  rw [Option.bind_some]
  try rw [wl_PM_6]
  refine km_bind (fun x30 => ?_)
  rw [Option.bind_some]
  try rw [wl_PM_7]
  refine km_bind (fun x34 => ?_)
  refine km_ite (fun _ => rfl) (fun _ => ?_)
  refine km_ite (fun _ => rfl) (fun _ => ?_)
  refine km_ite (fun _ => rfl) (fun _ => ?_)
  refine km_ite (fun _ => rfl) (fun _ => ?_)
  rfl
theorem lf_PM_turnedCell (o : Nat) (M : mv_M) (N : Nat) (σ : kS) (v1 : Int32) (v2 : Int32) : jf_PM_turnedCell N (wr_PM o M σ) o v1 v2 = (kf_PM_turnedCell N σ v1 v2).map (wq_PM o M) := lb_PM_turnedCell_0 o M N σ v1 v2
/-! ===== PlainLearnerModel.two(IJJJJ)V ===== -/
def kb_PM_two_68 (N : Nat) (σ : kS) : Option (Unit × kS) :=
  some ((), σ)
def kb_PM_two_0 (N : Nat) (σ : kS) (v1 : Int32) (v2 : Int64) (v4 : Int64) (v6 : Int64) (v8 : Int64) : Option (Unit × kS) :=
  if v1 = 0 then (kk_call (kf_PM_plus N σ v2 v4 v6 v8) fun r12 s12 =>
  kb_PM_two_68 N s12) else
  if v1 = 1 then (kk_call (kf_PM_plus N σ v2 v4 (-v6) v8) fun r32 s32 =>
  kb_PM_two_68 N s32) else
  if v1 = 2 then (kk_call (kf_PM_times N σ v2 v4 v6 v8) fun r51 s51 =>
  kb_PM_two_68 N s51) else
  kk_call (kf_PM_over N σ v2 v4 v6 v8) fun r65 s65 =>
  kb_PM_two_68 N s65
def kf_PM_two (N : Nat) (σ : kS) (v1 : Int32) (v2 : Int64) (v4 : Int64) (v6 : Int64) (v8 : Int64) : Option (Unit × kS) := kb_PM_two_0 N σ v1 v2 v4 v6 v8
set_option maxHeartbeats 4000000 in
theorem lb_PM_two_68 (o : Nat) (M : mv_M) (N : Nat)  (σ : kS) : jb_PM_two_68 N (wr_PM o M σ) = (kb_PM_two_68 N σ).map (wq_PM o M) := by
  unfold jb_PM_two_68 kb_PM_two_68
  rfl
set_option maxHeartbeats 4000000 in
theorem lb_PM_two_0 (o : Nat) (M : mv_M) (N : Nat)  (σ : kS) (v1 : Int32) (v2 : Int64) (v4 : Int64) (v6 : Int64) (v8 : Int64) : jb_PM_two_0 N (wr_PM o M σ) o v1 v2 v4 v6 v8 = (kb_PM_two_0 N σ v1 v2 v4 v6 v8).map (wq_PM o M) := by
  unfold jb_PM_two_0 kb_PM_two_0
  refine km_ite (fun _ => ?_) (fun _ => ?_)
  · try rw [wo_PM]
    try rw [lf_PM_plus]
    refine km_call (fun r12 s12 => ?_)
    exact lb_PM_two_68 o M N _
  · refine km_ite (fun _ => ?_) (fun _ => ?_)
    · try rw [wo_PM]
      try rw [lf_PM_plus]
      refine km_call (fun r32 s32 => ?_)
      exact lb_PM_two_68 o M N _
    · refine km_ite (fun _ => ?_) (fun _ => ?_)
      · try rw [wo_PM]
        try rw [lf_PM_times]
        refine km_call (fun r51 s51 => ?_)
        exact lb_PM_two_68 o M N _
      · try rw [wo_PM]
        try rw [lf_PM_over]
        refine km_call (fun r65 s65 => ?_)
        exact lb_PM_two_68 o M N _
theorem lf_PM_two (o : Nat) (M : mv_M) (N : Nat) (σ : kS) (v1 : Int32) (v2 : Int64) (v4 : Int64) (v6 : Int64) (v8 : Int64) : jf_PM_two N (wr_PM o M σ) o v1 v2 v4 v6 v8 = (kf_PM_two N σ v1 v2 v4 v6 v8).map (wq_PM o M) := lb_PM_two_0 o M N σ v1 v2 v4 v6 v8
/-! ===== PlainLearnerModel.product(II)V ===== -/
def kb_PM_product_41 (N : Nat) : Nat → kS → Int32 → Int32 → Int32 → Int32 → Int32 → Int64 → Int64 → Int32 → Option (Unit × kS)
  | 0, _, _, _, _, _, _, _, _, _ => none
  | n + 1, σ, v2, v3, v4, v5, v6, v7, v9, v11 =>
    if v6 ≤ v11 then (some ((), σ)) else
    if v5 = 0 then none else
    if v5 = 0 then none else
    Option.bind (mj_tabL (σ.2.2.2 9) 3200 (((64 * v3) + ((v2 / v5) * v6)) + v11)) fun x90 =>
    Option.bind (mj_tabL (σ.2.2.2 10) 3200 (((64 * v3) + ((v2 / v5) * v6)) + v11)) fun x97 =>
    Option.bind (mj_tabL (σ.2.2.2 9) 3200 (((64 * v4) + (v11 * v5)) + (v2 - v2 / v5 * v5))) fun x104 =>
    Option.bind (mj_tabL (σ.2.2.2 10) 3200 (((64 * v4) + (v11 * v5)) + (v2 - v2 / v5 * v5))) fun x111 =>
    kk_call (kf_PM_times N σ x90 x97 x104 x111) fun r112 s112 =>
    kk_call (kf_PM_plus N s112 v7 v9 (s112.2.1 0) (s112.2.1 1)) fun r128 s128 =>
    kb_PM_product_41 N n s128 v2 v3 v4 v5 v6 (s128.2.1 0) (s128.2.1 1) (v11 + 1)
def kb_PM_product_0 (N : Nat) (σ : kS) (v1 : Int32) (v2 : Int32) : Option (Unit × kS) :=
  Option.bind (mj_tab (σ.2.2.1 4) 50 v1) fun x5 =>
  Option.bind (mj_tab (σ.2.2.1 5) 50 v1) fun x12 =>
  kk_call (kf_PM_sideOf N σ x12 1) fun r19 s19 =>
  kk_call (kf_PM_sideOf N s19 x5 1) fun r27 s27 =>
  kb_PM_product_41 N N s27 v2 x5 x12 r19 r27 0 1 0
def kf_PM_product (N : Nat) (σ : kS) (v1 : Int32) (v2 : Int32) : Option (Unit × kS) := kb_PM_product_0 N σ v1 v2
set_option maxHeartbeats 4000000 in
theorem lb_PM_product_41 (o : Nat) (M : mv_M) (N : Nat) : ∀ (n : Nat) (σ : kS) (v2 : Int32) (v3 : Int32) (v4 : Int32) (v5 : Int32) (v6 : Int32) (v7 : Int64) (v9 : Int64) (v11 : Int32), jb_PM_product_41 N n (wr_PM o M σ) o v2 v3 v4 v5 v6 v7 v9 v11 = (kb_PM_product_41 N n σ v2 v3 v4 v5 v6 v7 v9 v11).map (wq_PM o M) := by
  intro n
  induction n with
  | zero => intros; rfl
  | succ n ih =>
    intro σ v2 v3 v4 v5 v6 v7 v9 v11
    rw [jb_PM_product_41, kb_PM_product_41]
    refine km_ite (fun _ => ?_) (fun _ => ?_)
    · rfl
    · refine km_ite (fun _ => rfl) (fun _ => ?_)
      refine km_ite (fun _ => rfl) (fun _ => ?_)
      first | rw [wg_PM_9, Option.bind_some] | rw [Option.bind_some]
      rw [Option.bind_some]
      try rw [wl_PM_9]
      refine km_bind (fun x90 => ?_)
      first | rw [wg_PM_10, Option.bind_some] | rw [Option.bind_some]
      rw [Option.bind_some]
      try rw [wl_PM_10]
      refine km_bind (fun x97 => ?_)
      first | rw [wg_PM_9, Option.bind_some] | rw [Option.bind_some]
      rw [Option.bind_some]
      try rw [wl_PM_9]
      refine km_bind (fun x104 => ?_)
      first | rw [wg_PM_10, Option.bind_some] | rw [Option.bind_some]
      rw [Option.bind_some]
      try rw [wl_PM_10]
      refine km_bind (fun x111 => ?_)
      try rw [wo_PM]
      try rw [lf_PM_times]
      refine km_call (fun r112 s112 => ?_)
      first | rw [wg_PM_0, Option.bind_some] | rw [Option.bind_some]
      first | rw [wg_PM_1, Option.bind_some] | rw [Option.bind_some]
      try rw [wo_PM]
      try rw [lf_PM_plus]
      refine km_call (fun r128 s128 => ?_)
      first | rw [wg_PM_0, Option.bind_some] | rw [Option.bind_some]
      first | rw [wg_PM_1, Option.bind_some] | rw [Option.bind_some]
      exact ih _ _ _ _ _ _ _ _ _
set_option maxHeartbeats 4000000 in
theorem lb_PM_product_0 (o : Nat) (M : mv_M) (N : Nat)  (σ : kS) (v1 : Int32) (v2 : Int32) : jb_PM_product_0 N (wr_PM o M σ) o v1 v2 = (kb_PM_product_0 N σ v1 v2).map (wq_PM o M) := by
  unfold jb_PM_product_0 kb_PM_product_0
  first | rw [wg_PM_4, Option.bind_some] | rw [Option.bind_some]
  rw [Option.bind_some]
  try rw [wl_PM_4]
  refine km_bind (fun x5 => ?_)
  first | rw [wg_PM_5, Option.bind_some] | rw [Option.bind_some]
  rw [Option.bind_some]
  try rw [wl_PM_5]
  refine km_bind (fun x12 => ?_)
  try rw [wo_PM]
  try rw [lf_PM_sideOf]
  refine km_call (fun r19 s19 => ?_)
  try rw [wo_PM]
  try rw [lf_PM_sideOf]
  refine km_call (fun r27 s27 => ?_)
  exact lb_PM_product_41 o M N N _ _ _ _ _ _ _ _ _
theorem lf_PM_product (o : Nat) (M : mv_M) (N : Nat) (σ : kS) (v1 : Int32) (v2 : Int32) : jf_PM_product N (wr_PM o M σ) o v1 v2 = (kf_PM_product N σ v1 v2).map (wq_PM o M) := lb_PM_product_0 o M N σ v1 v2
/-! ===== PlainLearnerModel.greatest(II)I ===== -/
def kb_PM_greatest_127 (N : Nat) (c26 : kS → Int32 → Int32 → Int32 → Int32 → Int32 → Int32 → Option (Int32 × kS)) (σ : kS) (v1 : Int32) (v2 : Int32) (v3 : Int32) (v4 : Int32) (v5 : Int32) (v6 : Int32) : Option (Int32 × kS) :=
  c26 σ v1 v2 v3 v4 v5 (v6 + 1)
def kb_PM_greatest_26 (N : Nat) : Nat → kS → Int32 → Int32 → Int32 → Int32 → Int32 → Int32 → Option (Int32 × kS)
  | 0, _, _, _, _, _, _, _ => none
  | n + 1, σ, v1, v2, v3, v4, v5, v6 =>
    if v4 ≤ v6 then (some (v5, σ)) else
    Option.bind (mj_tab (σ.2.2.1 5) 50 v1) fun x44 =>
    kk_call (kf_PM_alongCell N σ v3 x44 v2 v6) fun r48 s48 =>
    Option.bind (mj_tab (s48.2.2.1 5) 50 v1) fun x65 =>
    kk_call (kf_PM_alongCell N s48 v3 x65 v2 v5) fun r69 s69 =>
    Option.bind (mj_tabL (s69.2.2.2 10) 3200 ((64 * v3) + r48)) fun x81 =>
    if (lg_cmp x81 0) = 0 then (some ((-1), s69)) else
    Option.bind (mj_tabL (s69.2.2.2 9) 3200 ((64 * v3) + r48)) fun x95 =>
    Option.bind (mj_tabL (s69.2.2.2 10) 3200 ((64 * v3) + r48)) fun x102 =>
    Option.bind (mj_tabL (s69.2.2.2 9) 3200 ((64 * v3) + r69)) fun x109 =>
    Option.bind (mj_tabL (s69.2.2.2 10) 3200 ((64 * v3) + r69)) fun x116 =>
    Option.bind (kf_PM_isAbove N x95 x102 x109 x116) fun r117 =>
    if r117 = 0 then (kb_PM_greatest_127 N (kb_PM_greatest_26 N n) s69 v1 v2 v3 v4 v5 v6) else
    kb_PM_greatest_127 N (kb_PM_greatest_26 N n) s69 v1 v2 v3 v4 v6 v6
def kb_PM_greatest_0 (N : Nat) (σ : kS) (v1 : Int32) (v2 : Int32) : Option (Int32 × kS) :=
  Option.bind (mj_tab (σ.2.2.1 4) 50 v1) fun x5 =>
  Option.bind (mj_tab (σ.2.2.1 5) 50 v1) fun x14 =>
  kk_call (kf_PM_sideOf N σ x5 x14) fun r15 s15 =>
  kb_PM_greatest_26 N N s15 v1 v2 x5 r15 0 0
def kf_PM_greatest (N : Nat) (σ : kS) (v1 : Int32) (v2 : Int32) : Option (Int32 × kS) := kb_PM_greatest_0 N σ v1 v2
set_option maxHeartbeats 4000000 in
theorem lb_PM_greatest_127 (o : Nat) (M : mv_M) (N : Nat) (k26 : mv_M → Nat → Int32 → Int32 → Int32 → Int32 → Int32 → Int32 → Option (Int32 × mv_M)) (c26 : kS → Int32 → Int32 → Int32 → Int32 → Int32 → Int32 → Option (Int32 × kS)) (hc26 : ∀ (σ : kS) (v1 : Int32) (v2 : Int32) (v3 : Int32) (v4 : Int32) (v5 : Int32) (v6 : Int32), k26 (wr_PM o M σ) o v1 v2 v3 v4 v5 v6 = (c26 σ v1 v2 v3 v4 v5 v6).map (wq_PM o M))  (σ : kS) (v1 : Int32) (v2 : Int32) (v3 : Int32) (v4 : Int32) (v5 : Int32) (v6 : Int32) : jb_PM_greatest_127 N k26 (wr_PM o M σ) o v1 v2 v3 v4 v5 v6 = (kb_PM_greatest_127 N c26 σ v1 v2 v3 v4 v5 v6).map (wq_PM o M) := by
  unfold jb_PM_greatest_127 kb_PM_greatest_127
  exact hc26 _ _ _ _ _ _ _
set_option maxHeartbeats 4000000 in
theorem lb_PM_greatest_26 (o : Nat) (M : mv_M) (N : Nat) : ∀ (n : Nat) (σ : kS) (v1 : Int32) (v2 : Int32) (v3 : Int32) (v4 : Int32) (v5 : Int32) (v6 : Int32), jb_PM_greatest_26 N n (wr_PM o M σ) o v1 v2 v3 v4 v5 v6 = (kb_PM_greatest_26 N n σ v1 v2 v3 v4 v5 v6).map (wq_PM o M) := by
  intro n
  induction n with
  | zero => intros; rfl
  | succ n ih =>
    intro σ v1 v2 v3 v4 v5 v6
    rw [jb_PM_greatest_26, kb_PM_greatest_26]
    refine km_ite (fun _ => ?_) (fun _ => ?_)
    · rfl
    · first | rw [wg_PM_5, Option.bind_some] | rw [Option.bind_some]
      rw [Option.bind_some]
      try rw [wl_PM_5]
      refine km_bind (fun x44 => ?_)
      try rw [wo_PM]
      try rw [lf_PM_alongCell]
      refine km_call (fun r48 s48 => ?_)
      first | rw [wg_PM_5, Option.bind_some] | rw [Option.bind_some]
      rw [Option.bind_some]
      try rw [wl_PM_5]
      refine km_bind (fun x65 => ?_)
      try rw [wo_PM]
      try rw [lf_PM_alongCell]
      refine km_call (fun r69 s69 => ?_)
      first | rw [wg_PM_10, Option.bind_some] | rw [Option.bind_some]
      rw [Option.bind_some]
      try rw [wl_PM_10]
      refine km_bind (fun x81 => ?_)
      refine km_ite (fun _ => ?_) (fun _ => ?_)
      · rfl
      · first | rw [wg_PM_9, Option.bind_some] | rw [Option.bind_some]
        rw [Option.bind_some]
        try rw [wl_PM_9]
        refine km_bind (fun x95 => ?_)
        first | rw [wg_PM_10, Option.bind_some] | rw [Option.bind_some]
        rw [Option.bind_some]
        try rw [wl_PM_10]
        refine km_bind (fun x102 => ?_)
        first | rw [wg_PM_9, Option.bind_some] | rw [Option.bind_some]
        rw [Option.bind_some]
        try rw [wl_PM_9]
        refine km_bind (fun x109 => ?_)
        first | rw [wg_PM_10, Option.bind_some] | rw [Option.bind_some]
        rw [Option.bind_some]
        try rw [wl_PM_10]
        refine km_bind (fun x116 => ?_)
        try rw [lf_PM_isAbove]
        refine km_callP (fun r117 => ?_)
        refine km_ite (fun _ => ?_) (fun _ => ?_)
        · exact lb_PM_greatest_127 o M N _ _ ih _ _ _ _ _ _ _
        · exact lb_PM_greatest_127 o M N _ _ ih _ _ _ _ _ _ _
set_option maxHeartbeats 4000000 in
theorem lb_PM_greatest_0 (o : Nat) (M : mv_M) (N : Nat)  (σ : kS) (v1 : Int32) (v2 : Int32) : jb_PM_greatest_0 N (wr_PM o M σ) o v1 v2 = (kb_PM_greatest_0 N σ v1 v2).map (wq_PM o M) := by
  unfold jb_PM_greatest_0 kb_PM_greatest_0
  first | rw [wg_PM_4, Option.bind_some] | rw [Option.bind_some]
  rw [Option.bind_some]
  try rw [wl_PM_4]
  refine km_bind (fun x5 => ?_)
  first | rw [wg_PM_5, Option.bind_some] | rw [Option.bind_some]
  rw [Option.bind_some]
  try rw [wl_PM_5]
  refine km_bind (fun x14 => ?_)
  try rw [wo_PM]
  try rw [lf_PM_sideOf]
  refine km_call (fun r15 s15 => ?_)
  exact lb_PM_greatest_26 o M N N _ _ _ _ _ _ _
theorem lf_PM_greatest (o : Nat) (M : mv_M) (N : Nat) (σ : kS) (v1 : Int32) (v2 : Int32) : jf_PM_greatest N (wr_PM o M σ) o v1 v2 = (kf_PM_greatest N σ v1 v2).map (wq_PM o M) := lb_PM_greatest_0 o M N σ v1 v2
/-! ===== PlainLearnerModel.load(I)V ===== -/
def kb_PM_load_0 (N : Nat) (σ : kS) (v1 : Int32) : Option (Unit × kS) :=
  Option.bind (mj_tabL (σ.2.2.2 9) 3200 v1) fun x6 =>
  kk_let (kL σ 0 x6) fun s7 =>
  Option.bind (mj_tabL (s7.2.2.2 10) 3200 v1) fun x16 =>
  kk_let (kL s7 1 x16) fun s17 =>
  some ((), s17)
def kf_PM_load (N : Nat) (σ : kS) (v1 : Int32) : Option (Unit × kS) := kb_PM_load_0 N σ v1
set_option maxHeartbeats 4000000 in
theorem lb_PM_load_0 (o : Nat) (M : mv_M) (N : Nat)  (σ : kS) (v1 : Int32) : jb_PM_load_0 N (wr_PM o M σ) o v1 = (kb_PM_load_0 N σ v1).map (wq_PM o M) := by
  unfold jb_PM_load_0 kb_PM_load_0
  first | rw [wg_PM_9, Option.bind_some] | rw [Option.bind_some]
  rw [Option.bind_some]
  try rw [wl_PM_9]
  refine km_bind (fun x6 => ?_)
  rw [wp_PM_0, Option.bind_some]
  refine km_let ?_
  first | rw [wg_PM_10, Option.bind_some] | rw [Option.bind_some]
  rw [Option.bind_some]
  try rw [wl_PM_10]
  refine km_bind (fun x16 => ?_)
  rw [wp_PM_1, Option.bind_some]
  refine km_let ?_
  rfl
theorem lf_PM_load (o : Nat) (M : mv_M) (N : Nat) (σ : kS) (v1 : Int32) : jf_PM_load N (wr_PM o M σ) o v1 = (kf_PM_load N σ v1).map (wq_PM o M) := lb_PM_load_0 o M N σ v1
/-! ===== PlainLearnerModel.along(II)V ===== -/
def kb_PM_along_177 (N : Nat) (σ : kS) : Option (Unit × kS) :=
  some ((), σ)
def kb_PM_along_86 (N : Nat) : Nat → kS → Int32 → Int32 → Int32 → Int32 → Int64 → Int64 → Int32 → Option (Unit × kS)
  | 0, _, _, _, _, _, _, _, _ => none
  | n + 1, σ, v1, v2, v3, v4, v5, v7, v9 =>
    if v4 ≤ v9 then (Option.bind (mj_tab (σ.2.2.1 3) 50 v1) fun x159 =>
    if x159 = 6 then (kk_call (kf_PM_over N σ v5 v7 v4.toInt64 1) fun r174 s174 =>
    kb_PM_along_177 N s174) else
    kb_PM_along_177 N σ) else
    Option.bind (mj_tab (σ.2.2.1 5) 50 v1) fun x104 =>
    kk_call (kf_PM_alongCell N σ v3 x104 v2 v9) fun r108 s108 =>
    Option.bind (mj_tabL (s108.2.2.2 9) 3200 ((64 * v3) + r108)) fun x125 =>
    Option.bind (mj_tabL (s108.2.2.2 10) 3200 ((64 * v3) + r108)) fun x132 =>
    kk_call (kf_PM_plus N s108 v5 v7 x125 x132) fun r133 s133 =>
    kb_PM_along_86 N n s133 v1 v2 v3 v4 (s133.2.1 0) (s133.2.1 1) (v9 + 1)
def kb_PM_along_76 (N : Nat) (σ : kS) : Option (Unit × kS) :=
  some ((), σ)
def kb_PM_along_0 (N : Nat) (σ : kS) (v1 : Int32) (v2 : Int32) : Option (Unit × kS) :=
  Option.bind (mj_tab (σ.2.2.1 4) 50 v1) fun x5 =>
  Option.bind (mj_tab (σ.2.2.1 5) 50 v1) fun x14 =>
  kk_call (kf_PM_sideOf N σ x5 x14) fun r15 s15 =>
  Option.bind (mj_tab (s15.2.2.1 3) 50 v1) fun x25 =>
  if x25 = 7 then (kk_call (kf_PM_greatest N s15 v1 v2) fun r34 s34 =>
  if 0 ≤ r34 then (Option.bind (mj_tab (s34.2.2.1 5) 50 v1) fun x65 =>
  kk_call (kf_PM_alongCell N s34 x5 x65 v2 r34) fun r69 s69 =>
  kk_call (kf_PM_load N s69 ((64 * x5) + r69)) fun r73 s73 =>
  kb_PM_along_76 N s73) else
  kk_call (kf_PM_least N s34 0 0) fun r47 s47 =>
  kb_PM_along_76 N s47) else
  kb_PM_along_86 N N s15 v1 v2 x5 r15 0 1 0
def kf_PM_along (N : Nat) (σ : kS) (v1 : Int32) (v2 : Int32) : Option (Unit × kS) := kb_PM_along_0 N σ v1 v2
set_option maxHeartbeats 4000000 in
theorem lb_PM_along_177 (o : Nat) (M : mv_M) (N : Nat)  (σ : kS) : jb_PM_along_177 N (wr_PM o M σ) = (kb_PM_along_177 N σ).map (wq_PM o M) := by
  unfold jb_PM_along_177 kb_PM_along_177
  rfl
set_option maxHeartbeats 4000000 in
theorem lb_PM_along_86 (o : Nat) (M : mv_M) (N : Nat) : ∀ (n : Nat) (σ : kS) (v1 : Int32) (v2 : Int32) (v3 : Int32) (v4 : Int32) (v5 : Int64) (v7 : Int64) (v9 : Int32), jb_PM_along_86 N n (wr_PM o M σ) o v1 v2 v3 v4 v5 v7 v9 = (kb_PM_along_86 N n σ v1 v2 v3 v4 v5 v7 v9).map (wq_PM o M) := by
  intro n
  induction n with
  | zero => intros; rfl
  | succ n ih =>
    intro σ v1 v2 v3 v4 v5 v7 v9
    rw [jb_PM_along_86, kb_PM_along_86]
    refine km_ite (fun _ => ?_) (fun _ => ?_)
    · first | rw [wg_PM_3, Option.bind_some] | rw [Option.bind_some]
      rw [Option.bind_some]
      try rw [wl_PM_3]
      refine km_bind (fun x159 => ?_)
      refine km_ite (fun _ => ?_) (fun _ => ?_)
      · try rw [wo_PM]
        try rw [lf_PM_over]
        refine km_call (fun r174 s174 => ?_)
        exact lb_PM_along_177 o M N _
      · exact lb_PM_along_177 o M N _
    · first | rw [wg_PM_5, Option.bind_some] | rw [Option.bind_some]
      rw [Option.bind_some]
      try rw [wl_PM_5]
      refine km_bind (fun x104 => ?_)
      try rw [wo_PM]
      try rw [lf_PM_alongCell]
      refine km_call (fun r108 s108 => ?_)
      first | rw [wg_PM_9, Option.bind_some] | rw [Option.bind_some]
      rw [Option.bind_some]
      try rw [wl_PM_9]
      refine km_bind (fun x125 => ?_)
      first | rw [wg_PM_10, Option.bind_some] | rw [Option.bind_some]
      rw [Option.bind_some]
      try rw [wl_PM_10]
      refine km_bind (fun x132 => ?_)
      try rw [wo_PM]
      try rw [lf_PM_plus]
      refine km_call (fun r133 s133 => ?_)
      first | rw [wg_PM_0, Option.bind_some] | rw [Option.bind_some]
      first | rw [wg_PM_1, Option.bind_some] | rw [Option.bind_some]
      exact ih _ _ _ _ _ _ _ _
set_option maxHeartbeats 4000000 in
theorem lb_PM_along_76 (o : Nat) (M : mv_M) (N : Nat)  (σ : kS) : jb_PM_along_76 N (wr_PM o M σ) = (kb_PM_along_76 N σ).map (wq_PM o M) := by
  unfold jb_PM_along_76 kb_PM_along_76
  rfl
set_option maxHeartbeats 4000000 in
theorem lb_PM_along_0 (o : Nat) (M : mv_M) (N : Nat)  (σ : kS) (v1 : Int32) (v2 : Int32) : jb_PM_along_0 N (wr_PM o M σ) o v1 v2 = (kb_PM_along_0 N σ v1 v2).map (wq_PM o M) := by
  unfold jb_PM_along_0 kb_PM_along_0
  first | rw [wg_PM_4, Option.bind_some] | rw [Option.bind_some]
  rw [Option.bind_some]
  try rw [wl_PM_4]
  refine km_bind (fun x5 => ?_)
  first | rw [wg_PM_5, Option.bind_some] | rw [Option.bind_some]
  rw [Option.bind_some]
  try rw [wl_PM_5]
  refine km_bind (fun x14 => ?_)
  try rw [wo_PM]
  try rw [lf_PM_sideOf]
  refine km_call (fun r15 s15 => ?_)
  first | rw [wg_PM_3, Option.bind_some] | rw [Option.bind_some]
  rw [Option.bind_some]
  try rw [wl_PM_3]
  refine km_bind (fun x25 => ?_)
  refine km_ite (fun _ => ?_) (fun _ => ?_)
  · try rw [wo_PM]
    try rw [lf_PM_greatest]
    refine km_call (fun r34 s34 => ?_)
    refine km_ite (fun _ => ?_) (fun _ => ?_)
    · first | rw [wg_PM_5, Option.bind_some] | rw [Option.bind_some]
      rw [Option.bind_some]
      try rw [wl_PM_5]
      refine km_bind (fun x65 => ?_)
      try rw [wo_PM]
      try rw [lf_PM_alongCell]
      refine km_call (fun r69 s69 => ?_)
      try rw [wo_PM]
      try rw [lf_PM_load]
      refine km_call (fun r73 s73 => ?_)
      exact lb_PM_along_76 o M N _
    · try rw [wo_PM]
      try rw [lf_PM_least]
      refine km_call (fun r47 s47 => ?_)
      exact lb_PM_along_76 o M N _
  · exact lb_PM_along_86 o M N N _ _ _ _ _ _ _ _
theorem lf_PM_along (o : Nat) (M : mv_M) (N : Nat) (σ : kS) (v1 : Int32) (v2 : Int32) : jf_PM_along N (wr_PM o M σ) o v1 v2 = (kf_PM_along N σ v1 v2).map (wq_PM o M) := lb_PM_along_0 o M N σ v1 v2
/-! ===== PlainLearnerModel.cell(II)V ===== -/
def kb_PM_cell_349 (N : Nat) (σ : kS) : Option (Unit × kS) :=
  some ((), σ)
def kb_PM_cell_322 (N : Nat) (σ : kS) (v4 : Int32) : Option (Unit × kS) :=
  if v4 = 13 then (kk_call (kf_PM_times N σ (σ.2.1 0) (σ.2.1 1) (σ.2.1 0) (σ.2.1 1)) fun r346 s346 =>
  kb_PM_cell_349 N s346) else
  kb_PM_cell_349 N σ
def kb_PM_cell_300 (N : Nat) (σ : kS) (v4 : Int32) : Option (Unit × kS) :=
  if v4 = 11 then (if 0 ≤ (lg_cmp (σ.2.1 0) 0) then (kb_PM_cell_322 N σ v4) else
  kk_call (kf_PM_least N σ 0 1) fun r319 s319 =>
  kb_PM_cell_322 N s319 v4) else
  kb_PM_cell_322 N σ v4
def kb_PM_cell_291 (N : Nat) (σ : kS) (v4 : Int32) : Option (Unit × kS) :=
  kk_let (kL σ 0 (-(σ.2.1 0))) fun s297 =>
  kb_PM_cell_300 N s297 v4
def kb_PM_cell_201 (N : Nat) : Nat → kS → Int32 → Int32 → Int64 → Int64 → Int32 → Option (Unit × kS)
  | 0, _, _, _, _, _, _ => none
  | n + 1, σ, v3, v5, v6, v8, v10 =>
    kk_call (kf_PM_cells N σ v3) fun r205 s205 =>
    if r205 ≤ v10 then (kb_PM_cell_349 N s205) else
    Option.bind (mj_tabL (s205.2.2.2 9) 3200 (v5 + v10)) fun x225 =>
    Option.bind (mj_tabL (s205.2.2.2 10) 3200 (v5 + v10)) fun x235 =>
    kk_call (kf_PM_plus N s205 v6 v8 x225 x235) fun r236 s236 =>
    kb_PM_cell_201 N n s236 v3 v5 (s236.2.1 0) (s236.2.1 1) (v10 + 1)
def kb_PM_cell_0 (N : Nat) (σ : kS) (v1 : Int32) (v2 : Int32) : Option (Unit × kS) :=
  Option.bind (mj_tab (σ.2.2.1 4) 50 v1) fun x5 =>
  Option.bind (mj_tab (σ.2.2.1 3) 50 v1) fun x12 =>
  if 4 ≤ x12 then (if x12 = 4 then (kk_call (kf_PM_product N σ v1 v2) fun r109 s109 =>
  kb_PM_cell_349 N s109) else
  if 8 ≤ x12 then (if x12 = 8 then (Option.bind (mj_tab (σ.2.2.1 5) 50 v1) fun x146 =>
  kk_call (kf_PM_cells N σ v1) fun r149 s149 =>
  kk_call (kf_PM_load N s149 (((64 * x5) + (x146 * r149)) + v2)) fun r156 s156 =>
  kb_PM_cell_349 N s156) else
  if x12 = 9 then (kk_call (kf_PM_turnedCell N σ x5 v2) fun r175 s175 =>
  kk_call (kf_PM_load N s175 ((64 * x5) + r175)) fun r179 s179 =>
  kb_PM_cell_349 N s179) else
  if x12 = 15 then (kb_PM_cell_201 N N σ x5 (64 * x5) 0 1 0) else
  kk_call (kf_PM_load N σ ((64 * x5) + v2)) fun r265 s265 =>
  if x12 = 10 then (kb_PM_cell_291 N s265 x12) else
  if x12 = 12 then (if 0 ≤ (lg_cmp (s265.2.1 0) 0) then (kb_PM_cell_300 N s265 x12) else
  kb_PM_cell_291 N s265 x12) else
  kb_PM_cell_300 N s265 x12) else
  kk_call (kf_PM_along N σ v1 v2) fun r125 s125 =>
  kb_PM_cell_349 N s125) else
  kk_call (kf_PM_spreadCell N σ v1 v2 x5) fun r33 s33 =>
  Option.bind (mj_tab (s33.2.2.1 5) 50 v1) fun x46 =>
  Option.bind (mj_tab (s33.2.2.1 5) 50 v1) fun x56 =>
  kk_call (kf_PM_spreadCell N s33 v1 v2 x56) fun r57 s57 =>
  Option.bind (mj_tabL (s57.2.2.2 9) 3200 ((64 * x5) + r33)) fun x72 =>
  Option.bind (mj_tabL (s57.2.2.2 10) 3200 ((64 * x5) + r33)) fun x79 =>
  Option.bind (mj_tabL (s57.2.2.2 9) 3200 ((64 * x46) + r57)) fun x86 =>
  Option.bind (mj_tabL (s57.2.2.2 10) 3200 ((64 * x46) + r57)) fun x93 =>
  kk_call (kf_PM_two N s57 x12 x72 x79 x86 x93) fun r94 s94 =>
  kb_PM_cell_349 N s94
def kf_PM_cell (N : Nat) (σ : kS) (v1 : Int32) (v2 : Int32) : Option (Unit × kS) := kb_PM_cell_0 N σ v1 v2
set_option maxHeartbeats 4000000 in
theorem lb_PM_cell_349 (o : Nat) (M : mv_M) (N : Nat)  (σ : kS) : jb_PM_cell_349 N (wr_PM o M σ) = (kb_PM_cell_349 N σ).map (wq_PM o M) := by
  unfold jb_PM_cell_349 kb_PM_cell_349
  rfl
set_option maxHeartbeats 4000000 in
theorem lb_PM_cell_322 (o : Nat) (M : mv_M) (N : Nat)  (σ : kS) (v4 : Int32) : jb_PM_cell_322 N (wr_PM o M σ) o v4 = (kb_PM_cell_322 N σ v4).map (wq_PM o M) := by
  unfold jb_PM_cell_322 kb_PM_cell_322
  refine km_ite (fun _ => ?_) (fun _ => ?_)
  · first | rw [wg_PM_0, Option.bind_some] | rw [Option.bind_some]
    first | rw [wg_PM_1, Option.bind_some] | rw [Option.bind_some]
    first | rw [wg_PM_0, Option.bind_some] | rw [Option.bind_some]
    first | rw [wg_PM_1, Option.bind_some] | rw [Option.bind_some]
    try rw [wo_PM]
    try rw [lf_PM_times]
    refine km_call (fun r346 s346 => ?_)
    exact lb_PM_cell_349 o M N _
  · exact lb_PM_cell_349 o M N _
set_option maxHeartbeats 4000000 in
theorem lb_PM_cell_300 (o : Nat) (M : mv_M) (N : Nat)  (σ : kS) (v4 : Int32) : jb_PM_cell_300 N (wr_PM o M σ) o v4 = (kb_PM_cell_300 N σ v4).map (wq_PM o M) := by
  unfold jb_PM_cell_300 kb_PM_cell_300
  refine km_ite (fun _ => ?_) (fun _ => ?_)
  · first | rw [wg_PM_0, Option.bind_some] | rw [Option.bind_some]
    refine km_ite (fun _ => ?_) (fun _ => ?_)
    · exact lb_PM_cell_322 o M N _ _
    · try rw [wo_PM]
      try rw [lf_PM_least]
      refine km_call (fun r319 s319 => ?_)
      exact lb_PM_cell_322 o M N _ _
  · exact lb_PM_cell_322 o M N _ _
set_option maxHeartbeats 4000000 in
theorem lb_PM_cell_291 (o : Nat) (M : mv_M) (N : Nat)  (σ : kS) (v4 : Int32) : jb_PM_cell_291 N (wr_PM o M σ) o v4 = (kb_PM_cell_291 N σ v4).map (wq_PM o M) := by
  unfold jb_PM_cell_291 kb_PM_cell_291
  first | rw [wg_PM_0, Option.bind_some] | rw [Option.bind_some]
  rw [wp_PM_0, Option.bind_some]
  refine km_let ?_
  exact lb_PM_cell_300 o M N _ _
set_option maxHeartbeats 4000000 in
theorem lb_PM_cell_201 (o : Nat) (M : mv_M) (N : Nat) : ∀ (n : Nat) (σ : kS) (v3 : Int32) (v5 : Int32) (v6 : Int64) (v8 : Int64) (v10 : Int32), jb_PM_cell_201 N n (wr_PM o M σ) o v3 v5 v6 v8 v10 = (kb_PM_cell_201 N n σ v3 v5 v6 v8 v10).map (wq_PM o M) := by
  intro n
  induction n with
  | zero => intros; rfl
  | succ n ih =>
    intro σ v3 v5 v6 v8 v10
    rw [jb_PM_cell_201, kb_PM_cell_201]
    try rw [wo_PM]
    try rw [lf_PM_cells]
    refine km_call (fun r205 s205 => ?_)
    refine km_ite (fun _ => ?_) (fun _ => ?_)
    · exact lb_PM_cell_349 o M N _
    · first | rw [wg_PM_9, Option.bind_some] | rw [Option.bind_some]
      rw [Option.bind_some]
      try rw [wl_PM_9]
      refine km_bind (fun x225 => ?_)
      first | rw [wg_PM_10, Option.bind_some] | rw [Option.bind_some]
      rw [Option.bind_some]
      try rw [wl_PM_10]
      refine km_bind (fun x235 => ?_)
      try rw [wo_PM]
      try rw [lf_PM_plus]
      refine km_call (fun r236 s236 => ?_)
      first | rw [wg_PM_0, Option.bind_some] | rw [Option.bind_some]
      first | rw [wg_PM_1, Option.bind_some] | rw [Option.bind_some]
      exact ih _ _ _ _ _ _
set_option maxHeartbeats 4000000 in
theorem lb_PM_cell_0 (o : Nat) (M : mv_M) (N : Nat)  (σ : kS) (v1 : Int32) (v2 : Int32) : jb_PM_cell_0 N (wr_PM o M σ) o v1 v2 = (kb_PM_cell_0 N σ v1 v2).map (wq_PM o M) := by
  unfold jb_PM_cell_0 kb_PM_cell_0
  first | rw [wg_PM_4, Option.bind_some] | rw [Option.bind_some]
  rw [Option.bind_some]
  try rw [wl_PM_4]
  refine km_bind (fun x5 => ?_)
  first | rw [wg_PM_3, Option.bind_some] | rw [Option.bind_some]
  rw [Option.bind_some]
  try rw [wl_PM_3]
  refine km_bind (fun x12 => ?_)
  refine km_ite (fun _ => ?_) (fun _ => ?_)
  · refine km_ite (fun _ => ?_) (fun _ => ?_)
    · try rw [wo_PM]
      try rw [lf_PM_product]
      refine km_call (fun r109 s109 => ?_)
      exact lb_PM_cell_349 o M N _
    · refine km_ite (fun _ => ?_) (fun _ => ?_)
      · refine km_ite (fun _ => ?_) (fun _ => ?_)
        · first | rw [wg_PM_5, Option.bind_some] | rw [Option.bind_some]
          rw [Option.bind_some]
          try rw [wl_PM_5]
          refine km_bind (fun x146 => ?_)
          try rw [wo_PM]
          try rw [lf_PM_cells]
          refine km_call (fun r149 s149 => ?_)
          try rw [wo_PM]
          try rw [lf_PM_load]
          refine km_call (fun r156 s156 => ?_)
          exact lb_PM_cell_349 o M N _
        · refine km_ite (fun _ => ?_) (fun _ => ?_)
          · try rw [wo_PM]
            try rw [lf_PM_turnedCell]
            refine km_call (fun r175 s175 => ?_)
            try rw [wo_PM]
            try rw [lf_PM_load]
            refine km_call (fun r179 s179 => ?_)
            exact lb_PM_cell_349 o M N _
          · refine km_ite (fun _ => ?_) (fun _ => ?_)
            · exact lb_PM_cell_201 o M N N _ _ _ _ _ _
            · try rw [wo_PM]
              try rw [lf_PM_load]
              refine km_call (fun r265 s265 => ?_)
              refine km_ite (fun _ => ?_) (fun _ => ?_)
              · exact lb_PM_cell_291 o M N _ _
              · refine km_ite (fun _ => ?_) (fun _ => ?_)
                · first | rw [wg_PM_0, Option.bind_some] | rw [Option.bind_some]
                  refine km_ite (fun _ => ?_) (fun _ => ?_)
                  · exact lb_PM_cell_300 o M N _ _
                  · exact lb_PM_cell_291 o M N _ _
                · exact lb_PM_cell_300 o M N _ _
      · try rw [wo_PM]
        try rw [lf_PM_along]
        refine km_call (fun r125 s125 => ?_)
        exact lb_PM_cell_349 o M N _
  · try rw [wo_PM]
    try rw [lf_PM_spreadCell]
    refine km_call (fun r33 s33 => ?_)
    first | rw [wg_PM_5, Option.bind_some] | rw [Option.bind_some]
    rw [Option.bind_some]
    try rw [wl_PM_5]
    refine km_bind (fun x46 => ?_)
    first | rw [wg_PM_5, Option.bind_some] | rw [Option.bind_some]
    rw [Option.bind_some]
    try rw [wl_PM_5]
    refine km_bind (fun x56 => ?_)
    try rw [wo_PM]
    try rw [lf_PM_spreadCell]
    refine km_call (fun r57 s57 => ?_)
    first | rw [wg_PM_9, Option.bind_some] | rw [Option.bind_some]
    rw [Option.bind_some]
    try rw [wl_PM_9]
    refine km_bind (fun x72 => ?_)
    first | rw [wg_PM_10, Option.bind_some] | rw [Option.bind_some]
    rw [Option.bind_some]
    try rw [wl_PM_10]
    refine km_bind (fun x79 => ?_)
    first | rw [wg_PM_9, Option.bind_some] | rw [Option.bind_some]
    rw [Option.bind_some]
    try rw [wl_PM_9]
    refine km_bind (fun x86 => ?_)
    first | rw [wg_PM_10, Option.bind_some] | rw [Option.bind_some]
    rw [Option.bind_some]
    try rw [wl_PM_10]
    refine km_bind (fun x93 => ?_)
    try rw [wo_PM]
    try rw [lf_PM_two]
    refine km_call (fun r94 s94 => ?_)
    exact lb_PM_cell_349 o M N _
theorem lf_PM_cell (o : Nat) (M : mv_M) (N : Nat) (σ : kS) (v1 : Int32) (v2 : Int32) : jf_PM_cell N (wr_PM o M σ) o v1 v2 = (kf_PM_cell N σ v1 v2).map (wq_PM o M) := lb_PM_cell_0 o M N σ v1 v2
