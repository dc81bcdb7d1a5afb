/-! ===== PlainLearnerModel.ways(II)J ===== -/
def kb_PM_ways_19 (N : Nat) (σ : kS) : Option (Int64 × kS) :=
  some ((-1), σ)
def kb_PM_ways_113 (N : Nat) (c52 : kS → Int32 → Int32 → Option (Int64 × kS)) (σ : kS) (v2 : Int32) (v3 : Int32) : Option (Int64 × kS) :=
  c52 σ v2 (v3 + (-1))
def kb_PM_ways_52 (N : Nat) : Nat → kS → Int32 → Int32 → Option (Int64 × kS)
  | 0, _, _, _ => none
  | n + 1, σ, v2, v3 =>
    if v3 ≤ v2 then (Option.bind (mj_tabL (σ.2.2.2 17) 50 v2) fun x124 =>
    some (x124, σ)) else
    Option.bind (mj_tab (σ.2.2.1 3) 50 v3) fun x62 =>
    if x62 = (-2) then (kb_PM_ways_113 N (kb_PM_ways_52 N n) σ v2 v3) else
    Option.bind (mj_tab (σ.2.2.1 4) 50 v3) fun x77 =>
    Option.bind (mj_tabL (σ.2.2.2 17) 50 v3) fun x83 =>
    kk_call (kf_PM_toWay N σ x77 x83) fun r84 s84 =>
    Option.bind (mj_tab (s84.2.2.1 3) 50 v3) fun x92 =>
    if 5 ≤ x92 then (kb_PM_ways_113 N (kb_PM_ways_52 N n) s84 v2 v3) else
    Option.bind (mj_tab (s84.2.2.1 5) 50 v3) fun x103 =>
    Option.bind (mj_tabL (s84.2.2.2 17) 50 v3) fun x109 =>
    kk_call (kf_PM_toWay N s84 x103 x109) fun r110 s110 =>
    kb_PM_ways_113 N (kb_PM_ways_52 N n) s110 v2 v3
def kb_PM_ways_25 (N : Nat) : Nat → kS → Int32 → Int32 → Int32 → Option (Int64 × kS)
  | 0, _, _, _, _ => none
  | n + 1, σ, v1, v2, v3 =>
    if v1 < v3 then (mj_gd v1 50 <| kk_let (kB σ 17 v1.toNatClampNeg 1) fun s49 =>
    kb_PM_ways_52 N N s49 v2 v1) else
    mj_gd v3 50 <| kk_let (kB σ 17 v3.toNatClampNeg 0) fun s36 =>
    kb_PM_ways_25 N n s36 v1 v2 (v3 + 1)
def kb_PM_ways_0 (N : Nat) (σ : kS) (v1 : Int32) (v2 : Int32) : Option (Int64 × kS) :=
  kk_call (kf_PM_isNode N σ v1) fun r2 s2 =>
  if r2 = 0 then (kb_PM_ways_19 N s2) else
  Option.bind (kf_PM_isIn N v2.toInt64 0 v1.toInt64) fun r13 =>
  if r13 = 0 then (kb_PM_ways_19 N s2) else
  kb_PM_ways_25 N N s2 v1 v2 0
def kf_PM_ways (N : Nat) (σ : kS) (v1 : Int32) (v2 : Int32) : Option (Int64 × kS) := kb_PM_ways_0 N σ v1 v2
set_option maxHeartbeats 4000000 in
theorem lb_PM_ways_19 (o : Nat) (M : mv_M) (N : Nat)  (σ : kS) : jb_PM_ways_19 N (wr_PM o M σ) = (kb_PM_ways_19 N σ).map (wq_PM o M) := by
  unfold jb_PM_ways_19 kb_PM_ways_19
  rfl
set_option maxHeartbeats 4000000 in
theorem lb_PM_ways_113 (o : Nat) (M : mv_M) (N : Nat) (k52 : mv_M → Nat → Int32 → Int32 → Option (Int64 × mv_M)) (c52 : kS → Int32 → Int32 → Option (Int64 × kS)) (hc52 : ∀ (σ : kS) (v2 : Int32) (v3 : Int32), k52 (wr_PM o M σ) o v2 v3 = (c52 σ v2 v3).map (wq_PM o M))  (σ : kS) (v2 : Int32) (v3 : Int32) : jb_PM_ways_113 N k52 (wr_PM o M σ) o v2 v3 = (kb_PM_ways_113 N c52 σ v2 v3).map (wq_PM o M) := by
  unfold jb_PM_ways_113 kb_PM_ways_113
  exact hc52 _ _ _
set_option maxHeartbeats 4000000 in
theorem lb_PM_ways_52 (o : Nat) (M : mv_M) (N : Nat) : ∀ (n : Nat) (σ : kS) (v2 : Int32) (v3 : Int32), jb_PM_ways_52 N n (wr_PM o M σ) o v2 v3 = (kb_PM_ways_52 N n σ v2 v3).map (wq_PM o M) := by
  intro n
  induction n with
  | zero => intros; rfl
  | succ n ih =>
    intro σ v2 v3
    rw [jb_PM_ways_52, kb_PM_ways_52]
    refine km_ite (fun _ => ?_) (fun _ => ?_)
    · first | rw [wg_PM_17, Option.bind_some] | rw [Option.bind_some]
      rw [Option.bind_some]
      try rw [wl_PM_17]
      refine km_bind (fun x124 => ?_)
      rfl
    · first | rw [wg_PM_3, Option.bind_some] | rw [Option.bind_some]
      rw [Option.bind_some]
      try rw [wl_PM_3]
      refine km_bind (fun x62 => ?_)
      refine km_ite (fun _ => ?_) (fun _ => ?_)
      · exact lb_PM_ways_113 o M N _ _ ih _ _ _
      · first | rw [wg_PM_4, Option.bind_some] | rw [Option.bind_some]
        rw [Option.bind_some]
        try rw [wl_PM_4]
        refine km_bind (fun x77 => ?_)
        first | rw [wg_PM_17, Option.bind_some] | rw [Option.bind_some]
        rw [Option.bind_some]
        try rw [wl_PM_17]
        refine km_bind (fun x83 => ?_)
        try rw [wo_PM]
        try rw [lf_PM_toWay]
        refine km_call (fun r84 s84 => ?_)
        first | rw [wg_PM_3, Option.bind_some] | rw [Option.bind_some]
        rw [Option.bind_some]
        try rw [wl_PM_3]
        refine km_bind (fun x92 => ?_)
        refine km_ite (fun _ => ?_) (fun _ => ?_)
        · exact lb_PM_ways_113 o M N _ _ ih _ _ _
        · first | rw [wg_PM_5, Option.bind_some] | rw [Option.bind_some]
          rw [Option.bind_some]
          try rw [wl_PM_5]
          refine km_bind (fun x103 => ?_)
          first | rw [wg_PM_17, Option.bind_some] | rw [Option.bind_some]
          rw [Option.bind_some]
          try rw [wl_PM_17]
          refine km_bind (fun x109 => ?_)
          try rw [wo_PM]
          try rw [lf_PM_toWay]
          refine km_call (fun r110 s110 => ?_)
          exact lb_PM_ways_113 o M N _ _ ih _ _ _
set_option maxHeartbeats 4000000 in
theorem lb_PM_ways_25 (o : Nat) (M : mv_M) (N : Nat) : ∀ (n : Nat) (σ : kS) (v1 : Int32) (v2 : Int32) (v3 : Int32), jb_PM_ways_25 N n (wr_PM o M σ) o v1 v2 v3 = (kb_PM_ways_25 N n σ v1 v2 v3).map (wq_PM o M) := by
  intro n
  induction n with
  | zero => intros; rfl
  | succ n ih =>
    intro σ v1 v2 v3
    rw [jb_PM_ways_25, kb_PM_ways_25]
    refine km_ite (fun _ => ?_) (fun _ => ?_)
    · first | rw [wg_PM_17, Option.bind_some] | rw [Option.bind_some]
      rw [Option.bind_some]
      rw [wx_PM_17]
      refine km_gd (fun _ => ?_)
      refine km_let ?_
      skip
      exact lb_PM_ways_52 o M N N _ _ _
    · first | rw [wg_PM_17, Option.bind_some] | rw [Option.bind_some]
      rw [Option.bind_some]
      rw [wx_PM_17]
      refine km_gd (fun _ => ?_)
      refine km_let ?_
      skip
      exact ih _ _ _ _
set_option maxHeartbeats 4000000 in
theorem lb_PM_ways_0 (o : Nat) (M : mv_M) (N : Nat)  (σ : kS) (v1 : Int32) (v2 : Int32) : jb_PM_ways_0 N (wr_PM o M σ) o v1 v2 = (kb_PM_ways_0 N σ v1 v2).map (wq_PM o M) := by
  unfold jb_PM_ways_0 kb_PM_ways_0
  try rw [wo_PM]
  try rw [lf_PM_isNode]
  refine km_call (fun r2 s2 => ?_)
  refine km_ite (fun _ => ?_) (fun _ => ?_)
  · exact lb_PM_ways_19 o M N _
  · try rw [lf_PM_isIn]
    refine km_callP (fun r13 => ?_)
    refine km_ite (fun _ => ?_) (fun _ => ?_)
    · exact lb_PM_ways_19 o M N _
    · exact lb_PM_ways_25 o M N N _ _ _ _
theorem lf_PM_ways (o : Nat) (M : mv_M) (N : Nat) (σ : kS) (v1 : Int32) (v2 : Int32) : jf_PM_ways N (wr_PM o M σ) o v1 v2 = (kf_PM_ways N σ v1 v2).map (wq_PM o M) := lb_PM_ways_0 o M N σ v1 v2
/-! ===== PlainLearnerModel.parameter(IZ)I ===== -/
def kb_PM_parameter_33 (N : Nat) (σ : kS) (s0 : Int32) : Option (Int32 × kS) :=
  some (s0, σ)
def kb_PM_parameter_0 (N : Nat) (σ : kS) (v1 : Int32) (v2 : Int32) : Option (Int32 × kS) :=
  kk_call (kf_PM_isLeaf N σ v1) fun r2 s2 =>
  if r2 = 0 then (some ((-1), s2)) else
  Option.bind (mj_tab (s2.2.2.1 8) 50 v1) fun x15 =>
  mj_gd v1 50 <| kk_let (kA s2 8 v1.toNatClampNeg (vp_nar .boolean v2)) fun s23 =>
  if x15 = 0 then (kb_PM_parameter_33 N s23 0) else
  kb_PM_parameter_33 N s23 1
def kf_PM_parameter (N : Nat) (σ : kS) (v1 : Int32) (v2 : Int32) : Option (Int32 × kS) := kb_PM_parameter_0 N σ v1 v2
set_option maxHeartbeats 4000000 in
theorem lb_PM_parameter_33 (o : Nat) (M : mv_M) (N : Nat)  (σ : kS) (s0 : Int32) : jb_PM_parameter_33 N (wr_PM o M σ) s0 = (kb_PM_parameter_33 N σ s0).map (wq_PM o M) := by
  unfold jb_PM_parameter_33 kb_PM_parameter_33
  rfl
set_option maxHeartbeats 4000000 in
theorem lb_PM_parameter_0 (o : Nat) (M : mv_M) (N : Nat)  (σ : kS) (v1 : Int32) (v2 : Int32) : jb_PM_parameter_0 N (wr_PM o M σ) o v1 v2 = (kb_PM_parameter_0 N σ v1 v2).map (wq_PM o M) := by
  unfold jb_PM_parameter_0 kb_PM_parameter_0
  try rw [wo_PM]
  try rw [lf_PM_isLeaf]
  refine km_call (fun r2 s2 => ?_)
  refine km_ite (fun _ => ?_) (fun _ => ?_)
  · rfl
  · first | rw [wg_PM_8, Option.bind_some] | rw [Option.bind_some]
    rw [Option.bind_some]
    try rw [wl_PM_8]
    refine km_bind (fun x15 => ?_)
    first | rw [wg_PM_8, Option.bind_some] | rw [Option.bind_some]
    rw [Option.bind_some]
    rw [wx_PM_8]
    refine km_gd (fun _ => ?_)
    refine km_let ?_
    refine km_ite (fun _ => ?_) (fun _ => ?_)
    · exact lb_PM_parameter_33 o M N _ _
    · exact lb_PM_parameter_33 o M N _ _
theorem lf_PM_parameter (o : Nat) (M : mv_M) (N : Nat) (σ : kS) (v1 : Int32) (v2 : Int32) : jf_PM_parameter N (wr_PM o M σ) o v1 v2 = (kf_PM_parameter N σ v1 v2).map (wq_PM o M) := lb_PM_parameter_0 o M N σ v1 v2
/-! ===== PlainLearnerModel.rate(II)I ===== -/
def kb_PM_rate_0 (N : Nat) (σ : kS) (v1 : Int32) (v2 : Int32) : Option (Int32 × kS) :=
  if 1 ≤ v2 then (kk_call (kf_PM_least N σ v1.toInt64 v2.toInt64) fun r12 s12 =>
  kk_let (kL s12 18 (s12.2.1 0)) fun s20 =>
  kk_let (kL s20 19 (s20.2.1 1)) fun s28 =>
  some (0, s28)) else
  some ((-1), σ)
def kf_PM_rate (N : Nat) (σ : kS) (v1 : Int32) (v2 : Int32) : Option (Int32 × kS) := kb_PM_rate_0 N σ v1 v2
set_option maxHeartbeats 4000000 in
theorem lb_PM_rate_0 (o : Nat) (M : mv_M) (N : Nat)  (σ : kS) (v1 : Int32) (v2 : Int32) : jb_PM_rate_0 N (wr_PM o M σ) o v1 v2 = (kb_PM_rate_0 N σ v1 v2).map (wq_PM o M) := by
  unfold jb_PM_rate_0 kb_PM_rate_0
  refine km_ite (fun _ => ?_) (fun _ => ?_)
  · try rw [wo_PM]
    try rw [lf_PM_least]
    refine km_call (fun r12 s12 => ?_)
    first | rw [wg_PM_0, Option.bind_some] | rw [Option.bind_some]
    rw [wp_PM_18, Option.bind_some]
    refine km_let ?_
    first | rw [wg_PM_1, Option.bind_some] | rw [Option.bind_some]
    rw [wp_PM_19, Option.bind_some]
    refine km_let ?_
    rfl
  · rfl
theorem lf_PM_rate (o : Nat) (M : mv_M) (N : Nat) (σ : kS) (v1 : Int32) (v2 : Int32) : jf_PM_rate N (wr_PM o M σ) o v1 v2 = (kf_PM_rate N σ v1 v2).map (wq_PM o M) := lb_PM_rate_0 o M N σ v1 v2
/-! ===== PlainLearnerModel.round()V ===== -/
def kb_PM_round_52 (N : Nat) (σ : kS) (v5 : Int64) : Option (Unit × kS) :=
  kk_call (kf_PM_least N σ v5 4096) fun r58 s58 =>
  some ((), s58)
def kb_PM_round_0 (N : Nat) (σ : kS) : Option (Unit × kS) :=
  if (lg_cmp (σ.2.1 1) 0) = 0 then (some ((), σ)) else
  if (2 * (σ.2.1 1)) = 0 then none else
  if (2 * (σ.2.1 1)) = 0 then none else
  if 0 ≤ (lg_cmp (((8192 * (σ.2.1 0)) + (σ.2.1 1)) - ((8192 * (σ.2.1 0)) + (σ.2.1 1)) / (2 * (σ.2.1 1)) * (2 * (σ.2.1 1))) 0) then (kb_PM_round_52 N σ (((8192 * (σ.2.1 0)) + (σ.2.1 1)) / (2 * (σ.2.1 1)))) else
  kb_PM_round_52 N σ ((((8192 * (σ.2.1 0)) + (σ.2.1 1)) / (2 * (σ.2.1 1))) - 1)
def kf_PM_round (N : Nat) (σ : kS) : Option (Unit × kS) := kb_PM_round_0 N σ
set_option maxHeartbeats 4000000 in
theorem lb_PM_round_52 (o : Nat) (M : mv_M) (N : Nat)  (σ : kS) (v5 : Int64) : jb_PM_round_52 N (wr_PM o M σ) o v5 = (kb_PM_round_52 N σ v5).map (wq_PM o M) := by
  unfold jb_PM_round_52 kb_PM_round_52
  try rw [wo_PM]
  try rw [lf_PM_least]
  refine km_call (fun r58 s58 => ?_)
  rfl
set_option maxHeartbeats 4000000 in
theorem lb_PM_round_0 (o : Nat) (M : mv_M) (N : Nat)  (σ : kS) : jb_PM_round_0 N (wr_PM o M σ) o = (kb_PM_round_0 N σ).map (wq_PM o M) := by
  unfold jb_PM_round_0 kb_PM_round_0
  first | rw [wg_PM_1, Option.bind_some] | rw [Option.bind_some]
  refine km_ite (fun _ => ?_) (fun _ => ?_)
  · rfl
  · first | rw [wg_PM_0, Option.bind_some] | rw [Option.bind_some]
    first | rw [wg_PM_1, Option.bind_some] | rw [Option.bind_some]
    first | rw [wg_PM_1, Option.bind_some] | rw [Option.bind_some]
    refine km_ite (fun _ => rfl) (fun _ => ?_)
    refine km_ite (fun _ => rfl) (fun _ => ?_)
    refine km_ite (fun _ => ?_) (fun _ => ?_)
    · exact lb_PM_round_52 o M N _ _
    · exact lb_PM_round_52 o M N _ _
theorem lf_PM_round (o : Nat) (M : mv_M) (N : Nat) (σ : kS) : jf_PM_round N (wr_PM o M σ) o = (kf_PM_round N σ).map (wq_PM o M) := lb_PM_round_0 o M N σ
/-! ===== PlainLearnerModel.train(II)I ===== -/
def kb_PM_train_20 (N : Nat) (σ : kS) : Option (Int32 × kS) :=
  some ((-1), σ)
def kb_PM_train_291 (N : Nat) (c226 : kS → Int32 → Int32 → Option (Int32 × kS)) (σ : kS) (v3 : Int32) (v4 : Int32) : Option (Int32 × kS) :=
  c226 σ v3 (v4 + 1)
def kb_PM_train_283 (N : Nat) (c226 : kS → Int32 → Int32 → Option (Int32 × kS)) (c238 : kS → Int32 → Int32 → Int32 → Option (Int32 × kS)) (σ : kS) (v4 : Int32) (v5 : Int32) (s0 : Int32) (s1 : Int32) : Option (Int32 × kS) :=
  c238 σ (s0 + s1) v4 (v5 + 1)
def kb_PM_train_238 (N : Nat) (c226 : kS → Int32 → Int32 → Option (Int32 × kS)) : Nat → kS → Int32 → Int32 → Int32 → Option (Int32 × kS)
  | 0, _, _, _, _ => none
  | n + 1, σ, v3, v4, v5 =>
    Option.bind (mj_tab (σ.2.2.1 8) 50 v4) fun x244 =>
    if x244 = 0 then (kb_PM_train_291 N c226 σ v3 v4) else
    kk_call (kf_PM_cells N σ v4) fun r253 s253 =>
    if r253 ≤ v5 then (kb_PM_train_291 N c226 s253 v3 v4) else
    Option.bind (mj_tabL (s253.2.2.2 10) 3200 ((64 * v4) + v5)) fun x272 =>
    if (lg_cmp x272 0) = 0 then (kb_PM_train_283 N c226 (kb_PM_train_238 N c226 n) s253 v4 v5 v3 1) else
    kb_PM_train_283 N c226 (kb_PM_train_238 N c226 n) s253 v4 v5 v3 0
def kb_PM_train_226 (N : Nat) : Nat → kS → Int32 → Int32 → Option (Int32 × kS)
  | 0, _, _, _ => none
  | n + 1, σ, v3, v4 =>
    if (σ.1 2) ≤ v4 then (some (v3, σ)) else
    kb_PM_train_238 N (kb_PM_train_226 N n) N σ v3 v4 0
def kb_PM_train_209 (N : Nat) (c36 : kS → Int32 → Int32 → Int32 → Option (Int32 × kS)) (c50 : kS → Int32 → Int32 → Int32 → Int32 → Option (Int32 × kS)) (σ : kS) (v1 : Int32) (v2 : Int32) (v3 : Int32) (v4 : Int32) : Option (Int32 × kS) :=
  c50 σ v1 v2 v3 (v4 + 1)
def kb_PM_train_132 (N : Nat) (c36 : kS → Int32 → Int32 → Int32 → Option (Int32 × kS)) (c50 : kS → Int32 → Int32 → Int32 → Int32 → Option (Int32 × kS)) (c75 : kS → Int32 → Int32 → Int32 → Int32 → Int32 → Option (Int32 × kS)) (σ : kS) (v1 : Int32) (v2 : Int32) (v3 : Int32) (v4 : Int32) (v5 : Int32) (v6 : Int32) (v7 : Int64) (s0 : Int64) : Option (Int32 × kS) :=
  kk_call (kf_PM_times N σ (σ.2.1 18) (σ.2.1 19) v7 s0) fun r147 s147 =>
  Option.bind (mj_tabL (s147.2.2.2 9) 3200 v6) fun x157 =>
  Option.bind (mj_tabL (s147.2.2.2 10) 3200 v6) fun x164 =>
  kk_call (kf_PM_plus N s147 x157 x164 (-(s147.2.1 0)) (s147.2.1 1)) fun r174 s174 =>
  kk_call (kf_PM_round N s174 ) fun r178 s178 =>
  mj_gd v6 3200 <| kk_let (kB s178 9 v6.toNatClampNeg (s178.2.1 0)) fun s191 =>
  mj_gd v6 3200 <| kk_let (kB s191 10 v6.toNatClampNeg (s191.2.1 1)) fun s202 =>
  c75 s202 v1 v2 v3 v4 (v5 + 1)
def kb_PM_train_113 (N : Nat) (c36 : kS → Int32 → Int32 → Int32 → Option (Int32 × kS)) (c50 : kS → Int32 → Int32 → Int32 → Int32 → Option (Int32 × kS)) (c75 : kS → Int32 → Int32 → Int32 → Int32 → Int32 → Option (Int32 × kS)) (σ : kS) (v1 : Int32) (v2 : Int32) (v3 : Int32) (v4 : Int32) (v5 : Int32) (v6 : Int32) (s0 : Int64) : Option (Int32 × kS) :=
  if v1 < v4 then (kb_PM_train_132 N c36 c50 c75 σ v1 v2 v3 v4 v5 v6 s0 1) else
  Option.bind (mj_tabL (σ.2.2.2 14) 3200 v6) fun x127 =>
  kb_PM_train_132 N c36 c50 c75 σ v1 v2 v3 v4 v5 v6 s0 x127
def kb_PM_train_75 (N : Nat) (c36 : kS → Int32 → Int32 → Int32 → Option (Int32 × kS)) (c50 : kS → Int32 → Int32 → Int32 → Int32 → Option (Int32 × kS)) : Nat → kS → Int32 → Int32 → Int32 → Int32 → Int32 → Option (Int32 × kS)
  | 0, _, _, _, _, _, _ => none
  | n + 1, σ, v1, v2, v3, v4, v5 =>
    kk_call (kf_PM_cells N σ v4) fun r80 s80 =>
    if r80 ≤ v5 then (kb_PM_train_209 N c36 c50 s80 v1 v2 v3 v4) else
    if v1 < v4 then (kb_PM_train_113 N c36 c50 (kb_PM_train_75 N c36 c50 n) s80 v1 v2 v3 v4 v5 ((64 * v4) + v5) 0) else
    Option.bind (mj_tabL (s80.2.2.2 13) 3200 ((64 * v4) + v5)) fun x108 =>
    kb_PM_train_113 N c36 c50 (kb_PM_train_75 N c36 c50 n) s80 v1 v2 v3 v4 v5 ((64 * v4) + v5) x108
def kb_PM_train_50 (N : Nat) (c36 : kS → Int32 → Int32 → Int32 → Option (Int32 × kS)) : Nat → kS → Int32 → Int32 → Int32 → Int32 → Option (Int32 × kS)
  | 0, _, _, _, _, _ => none
  | n + 1, σ, v1, v2, v3, v4 =>
    if (σ.1 2) ≤ v4 then (c36 σ v1 v2 (v3 + 1)) else
    Option.bind (mj_tab (σ.2.2.1 8) 50 v4) fun x65 =>
    if x65 = 0 then (kb_PM_train_209 N c36 (kb_PM_train_50 N c36 n) σ v1 v2 v3 v4) else
    kb_PM_train_75 N c36 (kb_PM_train_50 N c36 n) N σ v1 v2 v3 v4 0
def kb_PM_train_36 (N : Nat) : Nat → kS → Int32 → Int32 → Int32 → Option (Int32 × kS)
  | 0, _, _, _, _ => none
  | n + 1, σ, v1, v2, v3 =>
    if v2 ≤ v3 then (kb_PM_train_226 N N σ 0 0) else
    kk_call (kf_PM_slopes N σ v1 (-1)) fun r44 s44 =>
    kb_PM_train_50 N (kb_PM_train_36 N n) N s44 v1 v2 v3 0
def kb_PM_train_0 (N : Nat) (σ : kS) (v1 : Int32) (v2 : Int32) : Option (Int32 × kS) :=
  kk_call (kf_PM_isNode N σ v1) fun r2 s2 =>
  if r2 = 0 then (kb_PM_train_20 N s2) else
  Option.bind (kf_PM_isIn N v2.toInt64 0 20) fun r14 =>
  if r14 = 0 then (kb_PM_train_20 N s2) else
  Option.bind (mj_tab (s2.2.2.1 6) 50 v1) fun x27 =>
  if x27 ≤ 0 then (kb_PM_train_36 N N s2 v1 v2 0) else
  some ((-4), s2)
def kf_PM_train (N : Nat) (σ : kS) (v1 : Int32) (v2 : Int32) : Option (Int32 × kS) := kb_PM_train_0 N σ v1 v2
set_option maxHeartbeats 4000000 in
theorem lb_PM_train_20 (o : Nat) (M : mv_M) (N : Nat)  (σ : kS) : jb_PM_train_20 N (wr_PM o M σ) = (kb_PM_train_20 N σ).map (wq_PM o M) := by
  unfold jb_PM_train_20 kb_PM_train_20
  rfl
set_option maxHeartbeats 4000000 in
theorem lb_PM_train_291 (o : Nat) (M : mv_M) (N : Nat) (k226 : mv_M → Nat → Int32 → Int32 → Option (Int32 × mv_M)) (c226 : kS → Int32 → Int32 → Option (Int32 × kS)) (hc226 : ∀ (σ : kS) (v3 : Int32) (v4 : Int32), k226 (wr_PM o M σ) o v3 v4 = (c226 σ v3 v4).map (wq_PM o M))  (σ : kS) (v3 : Int32) (v4 : Int32) : jb_PM_train_291 N k226 (wr_PM o M σ) o v3 v4 = (kb_PM_train_291 N c226 σ v3 v4).map (wq_PM o M) := by
  unfold jb_PM_train_291 kb_PM_train_291
  exact hc226 _ _ _
set_option maxHeartbeats 4000000 in
theorem lb_PM_train_283 (o : Nat) (M : mv_M) (N : Nat) (k226 : mv_M → Nat → Int32 → Int32 → Option (Int32 × mv_M)) (c226 : kS → Int32 → Int32 → Option (Int32 × kS)) (k238 : mv_M → Nat → Int32 → Int32 → Int32 → Option (Int32 × mv_M)) (c238 : kS → Int32 → Int32 → Int32 → Option (Int32 × kS)) (hc226 : ∀ (σ : kS) (v3 : Int32) (v4 : Int32), k226 (wr_PM o M σ) o v3 v4 = (c226 σ v3 v4).map (wq_PM o M)) (hc238 : ∀ (σ : kS) (v3 : Int32) (v4 : Int32) (v5 : Int32), k238 (wr_PM o M σ) o v3 v4 v5 = (c238 σ v3 v4 v5).map (wq_PM o M))  (σ : kS) (v4 : Int32) (v5 : Int32) (s0 : Int32) (s1 : Int32) : jb_PM_train_283 N k226 k238 (wr_PM o M σ) o v4 v5 s0 s1 = (kb_PM_train_283 N c226 c238 σ v4 v5 s0 s1).map (wq_PM o M) := by
  unfold jb_PM_train_283 kb_PM_train_283
  exact hc238 _ _ _ _
set_option maxHeartbeats 4000000 in
theorem lb_PM_train_238 (o : Nat) (M : mv_M) (N : Nat) (k226 : mv_M → Nat → Int32 → Int32 → Option (Int32 × mv_M)) (c226 : kS → Int32 → Int32 → Option (Int32 × kS)) (hc226 : ∀ (σ : kS) (v3 : Int32) (v4 : Int32), k226 (wr_PM o M σ) o v3 v4 = (c226 σ v3 v4).map (wq_PM o M)) : ∀ (n : Nat) (σ : kS) (v3 : Int32) (v4 : Int32) (v5 : Int32), jb_PM_train_238 N k226 n (wr_PM o M σ) o v3 v4 v5 = (kb_PM_train_238 N c226 n σ v3 v4 v5).map (wq_PM o M) := by
  intro n
  induction n with
  | zero => intros; rfl
  | succ n ih =>
    intro σ v3 v4 v5
    rw [jb_PM_train_238, kb_PM_train_238]
    first | rw [wg_PM_8, Option.bind_some] | rw [Option.bind_some]
    rw [Option.bind_some]
    try rw [wl_PM_8]
    refine km_bind (fun x244 => ?_)
    refine km_ite (fun _ => ?_) (fun _ => ?_)
    · exact lb_PM_train_291 o M N _ _ hc226 _ _ _
    · try rw [wo_PM]
      try rw [lf_PM_cells]
      refine km_call (fun r253 s253 => ?_)
      refine km_ite (fun _ => ?_) (fun _ => ?_)
      · exact lb_PM_train_291 o M N _ _ hc226 _ _ _
      · first | rw [wg_PM_10, Option.bind_some] | rw [Option.bind_some]
        rw [Option.bind_some]
        try rw [wl_PM_10]
        refine km_bind (fun x272 => ?_)
        refine km_ite (fun _ => ?_) (fun _ => ?_)
        · exact lb_PM_train_283 o M N _ _ _ _ hc226 ih _ _ _ _ _
        · exact lb_PM_train_283 o M N _ _ _ _ hc226 ih _ _ _ _ _
set_option maxHeartbeats 4000000 in
theorem lb_PM_train_226 (o : Nat) (M : mv_M) (N : Nat) : ∀ (n : Nat) (σ : kS) (v3 : Int32) (v4 : Int32), jb_PM_train_226 N n (wr_PM o M σ) o v3 v4 = (kb_PM_train_226 N n σ v3 v4).map (wq_PM o M) := by
  intro n
  induction n with
  | zero => intros; rfl
  | succ n ih =>
    intro σ v3 v4
    rw [jb_PM_train_226, kb_PM_train_226]
    first | rw [wg_PM_2, Option.bind_some] | rw [Option.bind_some]
    refine km_ite (fun _ => ?_) (fun _ => ?_)
    · rfl
    · exact lb_PM_train_238 o M N _ _ ih N _ _ _ _
set_option maxHeartbeats 4000000 in
theorem lb_PM_train_209 (o : Nat) (M : mv_M) (N : Nat) (k36 : mv_M → Nat → Int32 → Int32 → Int32 → Option (Int32 × mv_M)) (c36 : kS → Int32 → Int32 → Int32 → Option (Int32 × kS)) (k50 : mv_M → Nat → Int32 → Int32 → Int32 → Int32 → Option (Int32 × mv_M)) (c50 : kS → Int32 → Int32 → Int32 → Int32 → Option (Int32 × kS)) (hc36 : ∀ (σ : kS) (v1 : Int32) (v2 : Int32) (v3 : Int32), k36 (wr_PM o M σ) o v1 v2 v3 = (c36 σ v1 v2 v3).map (wq_PM o M)) (hc50 : ∀ (σ : kS) (v1 : Int32) (v2 : Int32) (v3 : Int32) (v4 : Int32), k50 (wr_PM o M σ) o v1 v2 v3 v4 = (c50 σ v1 v2 v3 v4).map (wq_PM o M))  (σ : kS) (v1 : Int32) (v2 : Int32) (v3 : Int32) (v4 : Int32) : jb_PM_train_209 N k36 k50 (wr_PM o M σ) o v1 v2 v3 v4 = (kb_PM_train_209 N c36 c50 σ v1 v2 v3 v4).map (wq_PM o M) := by
  unfold jb_PM_train_209 kb_PM_train_209
  exact hc50 _ _ _ _ _
set_option maxHeartbeats 4000000 in
theorem lb_PM_train_132 (o : Nat) (M : mv_M) (N : Nat) (k36 : mv_M → Nat → Int32 → Int32 → Int32 → Option (Int32 × mv_M)) (c36 : kS → Int32 → Int32 → Int32 → Option (Int32 × kS)) (k50 : mv_M → Nat → Int32 → Int32 → Int32 → Int32 → Option (Int32 × mv_M)) (c50 : kS → Int32 → Int32 → Int32 → Int32 → Option (Int32 × kS)) (k75 : mv_M → Nat → Int32 → Int32 → Int32 → Int32 → Int32 → Option (Int32 × mv_M)) (c75 : kS → Int32 → Int32 → Int32 → Int32 → Int32 → Option (Int32 × kS)) (hc36 : ∀ (σ : kS) (v1 : Int32) (v2 : Int32) (v3 : Int32), k36 (wr_PM o M σ) o v1 v2 v3 = (c36 σ v1 v2 v3).map (wq_PM o M)) (hc50 : ∀ (σ : kS) (v1 : Int32) (v2 : Int32) (v3 : Int32) (v4 : Int32), k50 (wr_PM o M σ) o v1 v2 v3 v4 = (c50 σ v1 v2 v3 v4).map (wq_PM o M)) (hc75 : ∀ (σ : kS) (v1 : Int32) (v2 : Int32) (v3 : Int32) (v4 : Int32) (v5 : Int32), k75 (wr_PM o M σ) o v1 v2 v3 v4 v5 = (c75 σ v1 v2 v3 v4 v5).map (wq_PM o M))  (σ : kS) (v1 : Int32) (v2 : Int32) (v3 : Int32) (v4 : Int32) (v5 : Int32) (v6 : Int32) (v7 : Int64) (s0 : Int64) : jb_PM_train_132 N k36 k50 k75 (wr_PM o M σ) o v1 v2 v3 v4 v5 v6 v7 s0 = (kb_PM_train_132 N c36 c50 c75 σ v1 v2 v3 v4 v5 v6 v7 s0).map (wq_PM o M) := by
  unfold jb_PM_train_132 kb_PM_train_132
  first | rw [wg_PM_18, Option.bind_some] | rw [Option.bind_some]
  first | rw [wg_PM_19, Option.bind_some] | rw [Option.bind_some]
  try rw [wo_PM]
  try rw [lf_PM_times]
  refine km_call (fun r147 s147 => ?_)
  first | rw [wg_PM_9, Option.bind_some] | rw [Option.bind_some]
  rw [Option.bind_some]
  try rw [wl_PM_9]
  refine km_bind (fun x157 => ?_)
  first | rw [wg_PM_10, Option.bind_some] | rw [Option.bind_some]
  rw [Option.bind_some]
  try rw [wl_PM_10]
  refine km_bind (fun x164 => ?_)
  first | rw [wg_PM_0, Option.bind_some] | rw [Option.bind_some]
  first | rw [wg_PM_1, Option.bind_some] | rw [Option.bind_some]
  try rw [wo_PM]
  try rw [lf_PM_plus]
  refine km_call (fun r174 s174 => ?_)
  try rw [wo_PM]
  try rw [lf_PM_round]
  refine km_call (fun r178 s178 => ?_)
  first | rw [wg_PM_9, Option.bind_some] | rw [Option.bind_some]
  first | rw [wg_PM_0, Option.bind_some] | rw [Option.bind_some]
  rw [Option.bind_some]
  rw [wx_PM_9]
  refine km_gd (fun _ => ?_)
  refine km_let ?_
  first | rw [wg_PM_10, Option.bind_some] | rw [Option.bind_some]
  first | rw [wg_PM_1, Option.bind_some] | rw [Option.bind_some]
  rw [Option.bind_some]
  rw [wx_PM_10]
  refine km_gd (fun _ => ?_)
  refine km_let ?_
  exact hc75 _ _ _ _ _ _
set_option maxHeartbeats 4000000 in
theorem lb_PM_train_113 (o : Nat) (M : mv_M) (N : Nat) (k36 : mv_M → Nat → Int32 → Int32 → Int32 → Option (Int32 × mv_M)) (c36 : kS → Int32 → Int32 → Int32 → Option (Int32 × kS)) (k50 : mv_M → Nat → Int32 → Int32 → Int32 → Int32 → Option (Int32 × mv_M)) (c50 : kS → Int32 → Int32 → Int32 → Int32 → Option (Int32 × kS)) (k75 : mv_M → Nat → Int32 → Int32 → Int32 → Int32 → Int32 → Option (Int32 × mv_M)) (c75 : kS → Int32 → Int32 → Int32 → Int32 → Int32 → Option (Int32 × kS)) (hc36 : ∀ (σ : kS) (v1 : Int32) (v2 : Int32) (v3 : Int32), k36 (wr_PM o M σ) o v1 v2 v3 = (c36 σ v1 v2 v3).map (wq_PM o M)) (hc50 : ∀ (σ : kS) (v1 : Int32) (v2 : Int32) (v3 : Int32) (v4 : Int32), k50 (wr_PM o M σ) o v1 v2 v3 v4 = (c50 σ v1 v2 v3 v4).map (wq_PM o M)) (hc75 : ∀ (σ : kS) (v1 : Int32) (v2 : Int32) (v3 : Int32) (v4 : Int32) (v5 : Int32), k75 (wr_PM o M σ) o v1 v2 v3 v4 v5 = (c75 σ v1 v2 v3 v4 v5).map (wq_PM o M))  (σ : kS) (v1 : Int32) (v2 : Int32) (v3 : Int32) (v4 : Int32) (v5 : Int32) (v6 : Int32) (s0 : Int64) : jb_PM_train_113 N k36 k50 k75 (wr_PM o M σ) o v1 v2 v3 v4 v5 v6 s0 = (kb_PM_train_113 N c36 c50 c75 σ v1 v2 v3 v4 v5 v6 s0).map (wq_PM o M) := by
  unfold jb_PM_train_113 kb_PM_train_113
  refine km_ite (fun _ => ?_) (fun _ => ?_)
  · exact lb_PM_train_132 o M N _ _ _ _ _ _ hc36 hc50 hc75 _ _ _ _ _ _ _ _ _
  · first | rw [wg_PM_14, Option.bind_some] | rw [Option.bind_some]
    rw [Option.bind_some]
    try rw [wl_PM_14]
    refine km_bind (fun x127 => ?_)
    exact lb_PM_train_132 o M N _ _ _ _ _ _ hc36 hc50 hc75 _ _ _ _ _ _ _ _ _
set_option maxHeartbeats 4000000 in
theorem lb_PM_train_75 (o : Nat) (M : mv_M) (N : Nat) (k36 : mv_M → Nat → Int32 → Int32 → Int32 → Option (Int32 × mv_M)) (c36 : kS → Int32 → Int32 → Int32 → Option (Int32 × kS)) (k50 : mv_M → Nat → Int32 → Int32 → Int32 → Int32 → Option (Int32 × mv_M)) (c50 : kS → Int32 → Int32 → Int32 → Int32 → Option (Int32 × kS)) (hc36 : ∀ (σ : kS) (v1 : Int32) (v2 : Int32) (v3 : Int32), k36 (wr_PM o M σ) o v1 v2 v3 = (c36 σ v1 v2 v3).map (wq_PM o M)) (hc50 : ∀ (σ : kS) (v1 : Int32) (v2 : Int32) (v3 : Int32) (v4 : Int32), k50 (wr_PM o M σ) o v1 v2 v3 v4 = (c50 σ v1 v2 v3 v4).map (wq_PM o M)) : ∀ (n : Nat) (σ : kS) (v1 : Int32) (v2 : Int32) (v3 : Int32) (v4 : Int32) (v5 : Int32), jb_PM_train_75 N k36 k50 n (wr_PM o M σ) o v1 v2 v3 v4 v5 = (kb_PM_train_75 N c36 c50 n σ v1 v2 v3 v4 v5).map (wq_PM o M) := by
  intro n
  induction n with
  | zero => intros; rfl
  | succ n ih =>
    intro σ v1 v2 v3 v4 v5
    rw [jb_PM_train_75, kb_PM_train_75]
    try rw [wo_PM]
    try rw [lf_PM_cells]
    refine km_call (fun r80 s80 => ?_)
    refine km_ite (fun _ => ?_) (fun _ => ?_)
    · exact lb_PM_train_209 o M N _ _ _ _ hc36 hc50 _ _ _ _ _
    · refine km_ite (fun _ => ?_) (fun _ => ?_)
      · exact lb_PM_train_113 o M N _ _ _ _ _ _ hc36 hc50 ih _ _ _ _ _ _ _ _
      · first | rw [wg_PM_13, Option.bind_some] | rw [Option.bind_some]
        rw [Option.bind_some]
        try rw [wl_PM_13]
        refine km_bind (fun x108 => ?_)
        exact lb_PM_train_113 o M N _ _ _ _ _ _ hc36 hc50 ih _ _ _ _ _ _ _ _
set_option maxHeartbeats 4000000 in
theorem lb_PM_train_50 (o : Nat) (M : mv_M) (N : Nat) (k36 : mv_M → Nat → Int32 → Int32 → Int32 → Option (Int32 × mv_M)) (c36 : kS → Int32 → Int32 → Int32 → Option (Int32 × kS)) (hc36 : ∀ (σ : kS) (v1 : Int32) (v2 : Int32) (v3 : Int32), k36 (wr_PM o M σ) o v1 v2 v3 = (c36 σ v1 v2 v3).map (wq_PM o M)) : ∀ (n : Nat) (σ : kS) (v1 : Int32) (v2 : Int32) (v3 : Int32) (v4 : Int32), jb_PM_train_50 N k36 n (wr_PM o M σ) o v1 v2 v3 v4 = (kb_PM_train_50 N c36 n σ v1 v2 v3 v4).map (wq_PM o M) := by
  intro n
  induction n with
  | zero => intros; rfl
  | succ n ih =>
    intro σ v1 v2 v3 v4
    rw [jb_PM_train_50, kb_PM_train_50]
    first | rw [wg_PM_2, Option.bind_some] | rw [Option.bind_some]
    refine km_ite (fun _ => ?_) (fun _ => ?_)
    · exact hc36 _ _ _ _
    · first | rw [wg_PM_8, Option.bind_some] | rw [Option.bind_some]
      rw [Option.bind_some]
      try rw [wl_PM_8]
      refine km_bind (fun x65 => ?_)
      refine km_ite (fun _ => ?_) (fun _ => ?_)
      · exact lb_PM_train_209 o M N _ _ _ _ hc36 ih _ _ _ _ _
      · exact lb_PM_train_75 o M N _ _ _ _ hc36 ih N _ _ _ _ _ _
set_option maxHeartbeats 4000000 in
theorem lb_PM_train_36 (o : Nat) (M : mv_M) (N : Nat) : ∀ (n : Nat) (σ : kS) (v1 : Int32) (v2 : Int32) (v3 : Int32), jb_PM_train_36 N n (wr_PM o M σ) o v1 v2 v3 = (kb_PM_train_36 N n σ v1 v2 v3).map (wq_PM o M) := by
  intro n
  induction n with
  | zero => intros; rfl
  | succ n ih =>
    intro σ v1 v2 v3
    rw [jb_PM_train_36, kb_PM_train_36]
    refine km_ite (fun _ => ?_) (fun _ => ?_)
    · exact lb_PM_train_226 o M N N _ _ _
    · try rw [wo_PM]
      try rw [lf_PM_slopes]
      refine km_call (fun r44 s44 => ?_)
      exact lb_PM_train_50 o M N _ _ ih N _ _ _ _ _
set_option maxHeartbeats 4000000 in
theorem lb_PM_train_0 (o : Nat) (M : mv_M) (N : Nat)  (σ : kS) (v1 : Int32) (v2 : Int32) : jb_PM_train_0 N (wr_PM o M σ) o v1 v2 = (kb_PM_train_0 N σ v1 v2).map (wq_PM o M) := by
  unfold jb_PM_train_0 kb_PM_train_0
  try rw [wo_PM]
  try rw [lf_PM_isNode]
  refine km_call (fun r2 s2 => ?_)
  refine km_ite (fun _ => ?_) (fun _ => ?_)
  · exact lb_PM_train_20 o M N _
  · try rw [lf_PM_isIn]
    refine km_callP (fun r14 => ?_)
    refine km_ite (fun _ => ?_) (fun _ => ?_)
    · exact lb_PM_train_20 o M N _
    · first | rw [wg_PM_6, Option.bind_some] | rw [Option.bind_some]
      rw [Option.bind_some]
      try rw [wl_PM_6]
      refine km_bind (fun x27 => ?_)
      refine km_ite (fun _ => ?_) (fun _ => ?_)
      · exact lb_PM_train_36 o M N N _ _ _ _
      · rfl
theorem lf_PM_train (o : Nat) (M : mv_M) (N : Nat) (σ : kS) (v1 : Int32) (v2 : Int32) : jf_PM_train N (wr_PM o M σ) o v1 v2 = (kf_PM_train N σ v1 v2).map (wq_PM o M) := lb_PM_train_0 o M N σ v1 v2
/-! ===== PlainLearnerModel.row(IIIII)I ===== -/
def kb_PM_row_75 (N : Nat) (σ : kS) (v1 : Int32) (v2 : Int32) (v3 : Int32) (v4 : Int32) (v5 : Int32) (s0 : Int32) : Option (Int32 × kS) :=
  if s0 = 0 then (some ((-1), σ)) else
  if (σ.1 20) = 40 then (some ((-3), σ)) else
  mj_gd (5 * (σ.1 20)) 200 <| kk_let (kA σ 21 (5 * (σ.1 20)).toNatClampNeg v1) fun s107 =>
  mj_gd ((5 * (s107.1 20)) + 1) 200 <| kk_let (kA s107 21 ((5 * (s107.1 20)) + 1).toNatClampNeg v2) fun s121 =>
  mj_gd ((5 * (s121.1 20)) + 2) 200 <| kk_let (kA s121 21 ((5 * (s121.1 20)) + 2).toNatClampNeg v3) fun s135 =>
  mj_gd ((5 * (s135.1 20)) + 3) 200 <| kk_let (kA s135 21 ((5 * (s135.1 20)) + 3).toNatClampNeg v4) fun s150 =>
  mj_gd ((5 * (s150.1 20)) + 4) 200 <| kk_let (kA s150 21 ((5 * (s150.1 20)) + 4).toNatClampNeg v5) fun s165 =>
  kk_let (kI s165 20 ((s165.1 20) + 1)) fun s174 =>
  some (((s165.1 20) + 1), s174)
def kb_PM_row_74 (N : Nat) (σ : kS) (v1 : Int32) (v2 : Int32) (v3 : Int32) (v4 : Int32) (v5 : Int32) : Option (Int32 × kS) :=
  kb_PM_row_75 N σ v1 v2 v3 v4 v5 0
def kb_PM_row_0 (N : Nat) (σ : kS) (v1 : Int32) (v2 : Int32) (v3 : Int32) (v4 : Int32) (v5 : Int32) : Option (Int32 × kS) :=
  Option.bind (kf_PM_isIn N v1.toInt64 (-1000) 1000) fun r8 =>
  if r8 = 0 then (kb_PM_row_74 N σ v1 v2 v3 v4 v5) else
  Option.bind (kf_PM_isIn N v2.toInt64 (-1000) 1000) fun r22 =>
  if r22 = 0 then (kb_PM_row_74 N σ v1 v2 v3 v4 v5) else
  Option.bind (kf_PM_isIn N v3.toInt64 (-1000) 1000) fun r36 =>
  if r36 = 0 then (kb_PM_row_74 N σ v1 v2 v3 v4 v5) else
  Option.bind (kf_PM_isIn N v4.toInt64 (-1000) 1000) fun r51 =>
  if r51 = 0 then (kb_PM_row_74 N σ v1 v2 v3 v4 v5) else
  Option.bind (kf_PM_isIn N v5.toInt64 0 3) fun r64 =>
  if r64 = 0 then (kb_PM_row_74 N σ v1 v2 v3 v4 v5) else
  kb_PM_row_75 N σ v1 v2 v3 v4 v5 1
def kf_PM_row (N : Nat) (σ : kS) (v1 : Int32) (v2 : Int32) (v3 : Int32) (v4 : Int32) (v5 : Int32) : Option (Int32 × kS) := kb_PM_row_0 N σ v1 v2 v3 v4 v5
set_option maxHeartbeats 4000000 in
theorem lb_PM_row_75 (o : Nat) (M : mv_M) (N : Nat)  (σ : kS) (v1 : Int32) (v2 : Int32) (v3 : Int32) (v4 : Int32) (v5 : Int32) (s0 : Int32) : jb_PM_row_75 N (wr_PM o M σ) o v1 v2 v3 v4 v5 s0 = (kb_PM_row_75 N σ v1 v2 v3 v4 v5 s0).map (wq_PM o M) := by
  unfold jb_PM_row_75 kb_PM_row_75
  refine km_ite (fun _ => ?_) (fun _ => ?_)
  · rfl
  · first | rw [wg_PM_20, Option.bind_some] | rw [Option.bind_some]
    refine km_ite (fun _ => ?_) (fun _ => ?_)
    · rfl
    · first | rw [wg_PM_21, Option.bind_some] | rw [Option.bind_some]
      first | rw [wg_PM_20, Option.bind_some] | rw [Option.bind_some]
      rw [Option.bind_some]
      rw [wx_PM_21]
      refine km_gd (fun _ => ?_)
      refine km_let ?_
      skip
      first | rw [wg_PM_21, Option.bind_some] | rw [Option.bind_some]
      first | rw [wg_PM_20, Option.bind_some] | rw [Option.bind_some]
      rw [Option.bind_some]
      rw [wx_PM_21]
      refine km_gd (fun _ => ?_)
      refine km_let ?_
      skip
      first | rw [wg_PM_21, Option.bind_some] | rw [Option.bind_some]
      first | rw [wg_PM_20, Option.bind_some] | rw [Option.bind_some]
      rw [Option.bind_some]
      rw [wx_PM_21]
      refine km_gd (fun _ => ?_)
      refine km_let ?_
      skip
      first | rw [wg_PM_21, Option.bind_some] | rw [Option.bind_some]
      first | rw [wg_PM_20, Option.bind_some] | rw [Option.bind_some]
      rw [Option.bind_some]
      rw [wx_PM_21]
      refine km_gd (fun _ => ?_)
      refine km_let ?_
      skip
      first | rw [wg_PM_21, Option.bind_some] | rw [Option.bind_some]
      first | rw [wg_PM_20, Option.bind_some] | rw [Option.bind_some]
      rw [Option.bind_some]
      rw [wx_PM_21]
      refine km_gd (fun _ => ?_)
      refine km_let ?_
      skip
      first | rw [wg_PM_20, Option.bind_some] | rw [Option.bind_some]
      rw [wp_PM_20, Option.bind_some]
      refine km_let ?_
      rfl
set_option maxHeartbeats 4000000 in
theorem lb_PM_row_74 (o : Nat) (M : mv_M) (N : Nat)  (σ : kS) (v1 : Int32) (v2 : Int32) (v3 : Int32) (v4 : Int32) (v5 : Int32) : jb_PM_row_74 N (wr_PM o M σ) o v1 v2 v3 v4 v5 = (kb_PM_row_74 N σ v1 v2 v3 v4 v5).map (wq_PM o M) := by
  unfold jb_PM_row_74 kb_PM_row_74
  exact lb_PM_row_75 o M N _ _ _ _ _ _ _
set_option maxHeartbeats 4000000 in
theorem lb_PM_row_0 (o : Nat) (M : mv_M) (N : Nat)  (σ : kS) (v1 : Int32) (v2 : Int32) (v3 : Int32) (v4 : Int32) (v5 : Int32) : jb_PM_row_0 N (wr_PM o M σ) o v1 v2 v3 v4 v5 = (kb_PM_row_0 N σ v1 v2 v3 v4 v5).map (wq_PM o M) := by
  unfold jb_PM_row_0 kb_PM_row_0
  try rw [lf_PM_isIn]
  refine km_callP (fun r8 => ?_)
  refine km_ite (fun _ => ?_) (fun _ => ?_)
  · exact lb_PM_row_74 o M N _ _ _ _ _ _
  · try rw [lf_PM_isIn]
    refine km_callP (fun r22 => ?_)
    refine km_ite (fun _ => ?_) (fun _ => ?_)
    · exact lb_PM_row_74 o M N _ _ _ _ _ _
    · try rw [lf_PM_isIn]
      refine km_callP (fun r36 => ?_)
      refine km_ite (fun _ => ?_) (fun _ => ?_)
      · exact lb_PM_row_74 o M N _ _ _ _ _ _
      · try rw [lf_PM_isIn]
        refine km_callP (fun r51 => ?_)
        refine km_ite (fun _ => ?_) (fun _ => ?_)
        · exact lb_PM_row_74 o M N _ _ _ _ _ _
        · try rw [lf_PM_isIn]
          refine km_callP (fun r64 => ?_)
          refine km_ite (fun _ => ?_) (fun _ => ?_)
          · exact lb_PM_row_74 o M N _ _ _ _ _ _
          · exact lb_PM_row_75 o M N _ _ _ _ _ _ _
theorem lf_PM_row (o : Nat) (M : mv_M) (N : Nat) (σ : kS) (v1 : Int32) (v2 : Int32) (v3 : Int32) (v4 : Int32) (v5 : Int32) : jf_PM_row N (wr_PM o M σ) o v1 v2 v3 v4 v5 = (kf_PM_row N σ v1 v2 v3 v4 v5).map (wq_PM o M) := lb_PM_row_0 o M N σ v1 v2 v3 v4 v5
/-! ===== PlainLearnerModel.part(IIZ)V ===== -/
def kb_PM_part_81 (N : Nat) (c13 : kS → Int32 → Int32 → Int32 → Int32 → Option (Unit × kS)) (c25 : kS → Int32 → Int32 → Int32 → Int32 → Int32 → Int32 → Option (Unit × kS)) (σ : kS) (v1 : Int32) (v2 : Int32) (v3 : Int32) (v4 : Int32) (v6 : Int32) (s0 : Int32) (s1 : Int32) : Option (Unit × kS) :=
  c25 σ v1 v2 v3 v4 (s0 + s1) (v6 + 1)
def kb_PM_part_80 (N : Nat) (c13 : kS → Int32 → Int32 → Int32 → Int32 → Option (Unit × kS)) (c25 : kS → Int32 → Int32 → Int32 → Int32 → Int32 → Int32 → Option (Unit × kS)) (σ : kS) (v1 : Int32) (v2 : Int32) (v3 : Int32) (v4 : Int32) (v6 : Int32) (s0 : Int32) : Option (Unit × kS) :=
  kb_PM_part_81 N c13 c25 σ v1 v2 v3 v4 v6 s0 0
def kb_PM_part_72 (N : Nat) (c13 : kS → Int32 → Int32 → Int32 → Int32 → Option (Unit × kS)) (c25 : kS → Int32 → Int32 → Int32 → Int32 → Int32 → Int32 → Option (Unit × kS)) (σ : kS) (v1 : Int32) (v2 : Int32) (v3 : Int32) (v4 : Int32) (v6 : Int32) (s0 : Int32) (s1 : Int32) : Option (Unit × kS) :=
  if s1 = v3 then (kb_PM_part_81 N c13 c25 σ v1 v2 v3 v4 v6 s0 1) else
  kb_PM_part_80 N c13 c25 σ v1 v2 v3 v4 v6 s0
def kb_PM_part_25 (N : Nat) (c13 : kS → Int32 → Int32 → Int32 → Int32 → Option (Unit × kS)) : Nat → kS → Int32 → Int32 → Int32 → Int32 → Int32 → Int32 → Option (Unit × kS)
  | 0, _, _, _, _, _, _, _ => none
  | n + 1, σ, v1, v2, v3, v4, v5, v6 =>
    if (σ.1 20) ≤ v6 then (kk_let (kI σ 22 ((σ.1 22) + v5)) fun s98 =>
    kk_let (kI s98 23 ((s98.1 23) + (v5 * v5))) fun s112 =>
    c13 s112 v1 v2 v3 (v4 + 1)) else
    Option.bind (mj_tab (σ.2.2.1 21) 200 ((5 * v6) + 4)) fun x46 =>
    if x46 = v4 then (Option.bind (mj_tab (σ.2.2.1 21) 200 ((5 * v6) + v1)) fun x62 =>
    if v2 < x62 then (kb_PM_part_72 N c13 (kb_PM_part_25 N c13 n) σ v1 v2 v3 v4 v6 v5 0) else
    kb_PM_part_72 N c13 (kb_PM_part_25 N c13 n) σ v1 v2 v3 v4 v6 v5 1) else
    kb_PM_part_80 N c13 (kb_PM_part_25 N c13 n) σ v1 v2 v3 v4 v6 v5
def kb_PM_part_13 (N : Nat) : Nat → kS → Int32 → Int32 → Int32 → Int32 → Option (Unit × kS)
  | 0, _, _, _, _, _ => none
  | n + 1, σ, v1, v2, v3, v4 =>
    if 4 ≤ v4 then (some ((), σ)) else
    kb_PM_part_25 N (kb_PM_part_13 N n) N σ v1 v2 v3 v4 0 0
def kb_PM_part_0 (N : Nat) (σ : kS) (v1 : Int32) (v2 : Int32) (v3 : Int32) : Option (Unit × kS) :=
  kk_let (kI σ 22 0) fun s2 =>
  kk_let (kI s2 23 0) fun s7 =>
  kb_PM_part_13 N N s7 v1 v2 v3 0
def kf_PM_part (N : Nat) (σ : kS) (v1 : Int32) (v2 : Int32) (v3 : Int32) : Option (Unit × kS) := kb_PM_part_0 N σ v1 v2 v3
set_option maxHeartbeats 4000000 in
theorem lb_PM_part_81 (o : Nat) (M : mv_M) (N : Nat) (k13 : mv_M → Nat → Int32 → Int32 → Int32 → Int32 → Option (Unit × mv_M)) (c13 : kS → Int32 → Int32 → Int32 → Int32 → Option (Unit × kS)) (k25 : mv_M → Nat → Int32 → Int32 → Int32 → Int32 → Int32 → Int32 → Option (Unit × mv_M)) (c25 : kS → Int32 → Int32 → Int32 → Int32 → Int32 → Int32 → Option (Unit × kS)) (hc13 : ∀ (σ : kS) (v1 : Int32) (v2 : Int32) (v3 : Int32) (v4 : Int32), k13 (wr_PM o M σ) o v1 v2 v3 v4 = (c13 σ v1 v2 v3 v4).map (wq_PM o M)) (hc25 : ∀ (σ : kS) (v1 : Int32) (v2 : Int32) (v3 : Int32) (v4 : Int32) (v5 : Int32) (v6 : Int32), k25 (wr_PM o M σ) o v1 v2 v3 v4 v5 v6 = (c25 σ v1 v2 v3 v4 v5 v6).map (wq_PM o M))  (σ : kS) (v1 : Int32) (v2 : Int32) (v3 : Int32) (v4 : Int32) (v6 : Int32) (s0 : Int32) (s1 : Int32) : jb_PM_part_81 N k13 k25 (wr_PM o M σ) o v1 v2 v3 v4 v6 s0 s1 = (kb_PM_part_81 N c13 c25 σ v1 v2 v3 v4 v6 s0 s1).map (wq_PM o M) := by
  unfold jb_PM_part_81 kb_PM_part_81
  exact hc25 _ _ _ _ _ _ _
set_option maxHeartbeats 4000000 in
theorem lb_PM_part_80 (o : Nat) (M : mv_M) (N : Nat) (k13 : mv_M → Nat → Int32 → Int32 → Int32 → Int32 → Option (Unit × mv_M)) (c13 : kS → Int32 → Int32 → Int32 → Int32 → Option (Unit × kS)) (k25 : mv_M → Nat → Int32 → Int32 → Int32 → Int32 → Int32 → Int32 → Option (Unit × mv_M)) (c25 : kS → Int32 → Int32 → Int32 → Int32 → Int32 → Int32 → Option (Unit × kS)) (hc13 : ∀ (σ : kS) (v1 : Int32) (v2 : Int32) (v3 : Int32) (v4 : Int32), k13 (wr_PM o M σ) o v1 v2 v3 v4 = (c13 σ v1 v2 v3 v4).map (wq_PM o M)) (hc25 : ∀ (σ : kS) (v1 : Int32) (v2 : Int32) (v3 : Int32) (v4 : Int32) (v5 : Int32) (v6 : Int32), k25 (wr_PM o M σ) o v1 v2 v3 v4 v5 v6 = (c25 σ v1 v2 v3 v4 v5 v6).map (wq_PM o M))  (σ : kS) (v1 : Int32) (v2 : Int32) (v3 : Int32) (v4 : Int32) (v6 : Int32) (s0 : Int32) : jb_PM_part_80 N k13 k25 (wr_PM o M σ) o v1 v2 v3 v4 v6 s0 = (kb_PM_part_80 N c13 c25 σ v1 v2 v3 v4 v6 s0).map (wq_PM o M) := by
  unfold jb_PM_part_80 kb_PM_part_80
  exact lb_PM_part_81 o M N _ _ _ _ hc13 hc25 _ _ _ _ _ _ _ _
set_option maxHeartbeats 4000000 in
theorem lb_PM_part_72 (o : Nat) (M : mv_M) (N : Nat) (k13 : mv_M → Nat → Int32 → Int32 → Int32 → Int32 → Option (Unit × mv_M)) (c13 : kS → Int32 → Int32 → Int32 → Int32 → Option (Unit × kS)) (k25 : mv_M → Nat → Int32 → Int32 → Int32 → Int32 → Int32 → Int32 → Option (Unit × mv_M)) (c25 : kS → Int32 → Int32 → Int32 → Int32 → Int32 → Int32 → Option (Unit × kS)) (hc13 : ∀ (σ : kS) (v1 : Int32) (v2 : Int32) (v3 : Int32) (v4 : Int32), k13 (wr_PM o M σ) o v1 v2 v3 v4 = (c13 σ v1 v2 v3 v4).map (wq_PM o M)) (hc25 : ∀ (σ : kS) (v1 : Int32) (v2 : Int32) (v3 : Int32) (v4 : Int32) (v5 : Int32) (v6 : Int32), k25 (wr_PM o M σ) o v1 v2 v3 v4 v5 v6 = (c25 σ v1 v2 v3 v4 v5 v6).map (wq_PM o M))  (σ : kS) (v1 : Int32) (v2 : Int32) (v3 : Int32) (v4 : Int32) (v6 : Int32) (s0 : Int32) (s1 : Int32) : jb_PM_part_72 N k13 k25 (wr_PM o M σ) o v1 v2 v3 v4 v6 s0 s1 = (kb_PM_part_72 N c13 c25 σ v1 v2 v3 v4 v6 s0 s1).map (wq_PM o M) := by
  unfold jb_PM_part_72 kb_PM_part_72
  refine km_ite (fun _ => ?_) (fun _ => ?_)
  · exact lb_PM_part_81 o M N _ _ _ _ hc13 hc25 _ _ _ _ _ _ _ _
  · exact lb_PM_part_80 o M N _ _ _ _ hc13 hc25 _ _ _ _ _ _ _
set_option maxHeartbeats 4000000 in
theorem lb_PM_part_25 (o : Nat) (M : mv_M) (N : Nat) (k13 : mv_M → Nat → Int32 → Int32 → Int32 → Int32 → Option (Unit × mv_M)) (c13 : kS → Int32 → Int32 → Int32 → Int32 → Option (Unit × kS)) (hc13 : ∀ (σ : kS) (v1 : Int32) (v2 : Int32) (v3 : Int32) (v4 : Int32), k13 (wr_PM o M σ) o v1 v2 v3 v4 = (c13 σ v1 v2 v3 v4).map (wq_PM o M)) : ∀ (n : Nat) (σ : kS) (v1 : Int32) (v2 : Int32) (v3 : Int32) (v4 : Int32) (v5 : Int32) (v6 : Int32), jb_PM_part_25 N k13 n (wr_PM o M σ) o v1 v2 v3 v4 v5 v6 = (kb_PM_part_25 N c13 n σ v1 v2 v3 v4 v5 v6).map (wq_PM o M) := by
  intro n
  induction n with
  | zero => intros; rfl
  | succ n ih =>
    intro σ v1 v2 v3 v4 v5 v6
    rw [jb_PM_part_25, kb_PM_part_25]
    first | rw [wg_PM_20, Option.bind_some] | rw [Option.bind_some]
    refine km_ite (fun _ => ?_) (fun _ => ?_)
    · first | rw [wg_PM_22, Option.bind_some] | rw [Option.bind_some]
      rw [wp_PM_22, Option.bind_some]
      refine km_let ?_
      first | rw [wg_PM_23, Option.bind_some] | rw [Option.bind_some]
      rw [wp_PM_23, Option.bind_some]
      refine km_let ?_
      exact hc13 _ _ _ _ _
    · first | rw [wg_PM_21, Option.bind_some] | rw [Option.bind_some]
      rw [Option.bind_some]
      try rw [wl_PM_21]
      refine km_bind (fun x46 => ?_)
      refine km_ite (fun _ => ?_) (fun _ => ?_)
      · first | rw [wg_PM_21, Option.bind_some] | rw [Option.bind_some]
        rw [Option.bind_some]
        try rw [wl_PM_21]
        refine km_bind (fun x62 => ?_)
        refine km_ite (fun _ => ?_) (fun _ => ?_)
        · exact lb_PM_part_72 o M N _ _ _ _ hc13 ih _ _ _ _ _ _ _ _
        · exact lb_PM_part_72 o M N _ _ _ _ hc13 ih _ _ _ _ _ _ _ _
      · exact lb_PM_part_80 o M N _ _ _ _ hc13 ih _ _ _ _ _ _ _
set_option maxHeartbeats 4000000 in
theorem lb_PM_part_13 (o : Nat) (M : mv_M) (N : Nat) : ∀ (n : Nat) (σ : kS) (v1 : Int32) (v2 : Int32) (v3 : Int32) (v4 : Int32), jb_PM_part_13 N n (wr_PM o M σ) o v1 v2 v3 v4 = (kb_PM_part_13 N n σ v1 v2 v3 v4).map (wq_PM o M) := by
  intro n
  induction n with
  | zero => intros; rfl
  | succ n ih =>
    intro σ v1 v2 v3 v4
    rw [jb_PM_part_13, kb_PM_part_13]
    refine km_ite (fun _ => ?_) (fun _ => ?_)
    · rfl
    · exact lb_PM_part_25 o M N _ _ ih N _ _ _ _ _ _ _
set_option maxHeartbeats 4000000 in
theorem lb_PM_part_0 (o : Nat) (M : mv_M) (N : Nat)  (σ : kS) (v1 : Int32) (v2 : Int32) (v3 : Int32) : jb_PM_part_0 N (wr_PM o M σ) o v1 v2 v3 = (kb_PM_part_0 N σ v1 v2 v3).map (wq_PM o M) := by
  unfold jb_PM_part_0 kb_PM_part_0
  rw [wp_PM_22, Option.bind_some]
  refine km_let ?_
  rw [wp_PM_23, Option.bind_some]
  refine km_let ?_
  exact lb_PM_part_13 o M N N _ _ _ _ _
theorem lf_PM_part (o : Nat) (M : mv_M) (N : Nat) (σ : kS) (v1 : Int32) (v2 : Int32) (v3 : Int32) : jf_PM_part N (wr_PM o M σ) o v1 v2 v3 = (kf_PM_part N σ v1 v2 v3).map (wq_PM o M) := lb_PM_part_0 o M N σ v1 v2 v3
/-! ===== PlainLearnerModel.costs(II)Z ===== -/
def kb_PM_costs_46 (N : Nat) (σ : kS) : Option (Int32 × kS) :=
  if (0 : Int32) = 0 ∨ (0 : Int32) = 1 then some (0, σ) else none
def kb_PM_costs_0 (N : Nat) (σ : kS) (v1 : Int32) (v2 : Int32) : Option (Int32 × kS) :=
  kk_call (kf_PM_part N σ v1 v2 1) fun r4 s4 =>
  kk_call (kf_PM_part N s4 v1 v2 0) fun r24 s24 =>
  kk_call (kf_PM_least N s24 0 0) fun r30 s30 =>
  if (lg_cmp ((s4.1 22).toInt64) 0) = 0 then (kb_PM_costs_46 N s30) else
  if (s30.1 22) = 0 then (kb_PM_costs_46 N s30) else
  kk_call (kf_PM_least N s30 (((((s4.1 22).toInt64 * (s4.1 22).toInt64) - (s4.1 23).toInt64) * (s30.1 22).toInt64) + ((((s30.1 22).toInt64 * (s30.1 22).toInt64) - (s30.1 23).toInt64) * (s4.1 22).toInt64)) (((s4.1 22).toInt64 * (s30.1 22).toInt64) * ((s4.1 22).toInt64 + (s30.1 22).toInt64))) fun r92 s92 =>
  if (1 : Int32) = 0 ∨ (1 : Int32) = 1 then some (1, s92) else none
def kf_PM_costs (N : Nat) (σ : kS) (v1 : Int32) (v2 : Int32) : Option (Int32 × kS) := kb_PM_costs_0 N σ v1 v2
set_option maxHeartbeats 4000000 in
theorem lb_PM_costs_46 (o : Nat) (M : mv_M) (N : Nat)  (σ : kS) : jb_PM_costs_46 N (wr_PM o M σ) = (kb_PM_costs_46 N σ).map (wq_PM o M) := by
  unfold jb_PM_costs_46 kb_PM_costs_46
  refine km_ite (fun _ => rfl) (fun _ => rfl)
set_option maxHeartbeats 4000000 in
theorem lb_PM_costs_0 (o : Nat) (M : mv_M) (N : Nat)  (σ : kS) (v1 : Int32) (v2 : Int32) : jb_PM_costs_0 N (wr_PM o M σ) o v1 v2 = (kb_PM_costs_0 N σ v1 v2).map (wq_PM o M) := by
  unfold jb_PM_costs_0 kb_PM_costs_0
  try rw [wo_PM]
  try rw [lf_PM_part]
  refine km_call (fun r4 s4 => ?_)
  first | rw [wg_PM_22, Option.bind_some] | rw [Option.bind_some]
  first | rw [wg_PM_23, Option.bind_some] | rw [Option.bind_some]
  try rw [wo_PM]
  try rw [lf_PM_part]
  refine km_call (fun r24 s24 => ?_)
  try rw [wo_PM]
  try rw [lf_PM_least]
  refine km_call (fun r30 s30 => ?_)
  refine km_ite (fun _ => ?_) (fun _ => ?_)
  · exact lb_PM_costs_46 o M N _
  · first | rw [wg_PM_22, Option.bind_some] | rw [Option.bind_some]
    refine km_ite (fun _ => ?_) (fun _ => ?_)
    · exact lb_PM_costs_46 o M N _
    · first | rw [wg_PM_22, Option.bind_some] | rw [Option.bind_some]
      first | rw [wg_PM_23, Option.bind_some] | rw [Option.bind_some]
      try rw [wo_PM]
      try rw [lf_PM_least]
      refine km_call (fun r92 s92 => ?_)
      refine km_ite (fun _ => rfl) (fun _ => rfl)
theorem lf_PM_costs (o : Nat) (M : mv_M) (N : Nat) (σ : kS) (v1 : Int32) (v2 : Int32) : jf_PM_costs N (wr_PM o M σ) o v1 v2 = (kf_PM_costs N σ v1 v2).map (wq_PM o M) := lb_PM_costs_0 o M N σ v1 v2
/-! ===== PlainLearnerModel.cut(I)I ===== -/
def kb_PM_cut_156 (N : Nat) (c30 : kS → Int32 → Int32 → Int32 → Option (Int32 × kS)) (σ : kS) (v1 : Int32) (v2 : Int32) (v3 : Int32) : Option (Int32 × kS) :=
  c30 σ v1 v2 (v3 + 1)
def kb_PM_cut_127 (N : Nat) (c30 : kS → Int32 → Int32 → Int32 → Option (Int32 × kS)) (σ : kS) (v1 : Int32) (v2 : Int32) (v3 : Int32) (v4 : Int32) (s0 : Int32) : Option (Int32 × kS) :=
  if s0 = 0 then (kb_PM_cut_156 N c30 σ v1 v2 v3) else
  kk_let (kL σ 24 (σ.2.1 0)) fun s145 =>
  kk_let (kL s145 25 (s145.2.1 1)) fun s153 =>
  kb_PM_cut_156 N c30 s153 v1 v4 v3
def kb_PM_cut_122 (N : Nat) (c30 : kS → Int32 → Int32 → Int32 → Option (Int32 × kS)) (σ : kS) (v1 : Int32) (v2 : Int32) (v3 : Int32) (v4 : Int32) : Option (Int32 × kS) :=
  kb_PM_cut_127 N c30 σ v1 v2 v3 v4 1
def kb_PM_cut_126 (N : Nat) (c30 : kS → Int32 → Int32 → Int32 → Option (Int32 × kS)) (σ : kS) (v1 : Int32) (v2 : Int32) (v3 : Int32) (v4 : Int32) : Option (Int32 × kS) :=
  kb_PM_cut_127 N c30 σ v1 v2 v3 v4 0
def kb_PM_cut_30 (N : Nat) : Nat → kS → Int32 → Int32 → Int32 → Option (Int32 × kS)
  | 0, _, _, _, _ => none
  | n + 1, σ, v1, v2, v3 =>
    if (σ.1 20) ≤ v3 then (some (v2, σ)) else
    Option.bind (mj_tab (σ.2.2.1 21) 200 ((5 * v3) + v1)) fun x47 =>
    kk_call (kf_PM_costs N σ v1 x47) fun r54 s54 =>
    if r54 = 0 then (kb_PM_cut_156 N (kb_PM_cut_30 N n) s54 v1 v2 v3) else
    if v2 = 10000 then (kb_PM_cut_122 N (kb_PM_cut_30 N n) s54 v1 v2 v3 x47) else
    Option.bind (kf_PM_isAbove N (s54.2.1 24) (s54.2.1 25) (s54.2.1 0) (s54.2.1 1)) fun r86 =>
    if r86 = 0 then (if v2 ≤ x47 then (kb_PM_cut_126 N (kb_PM_cut_30 N n) s54 v1 v2 v3 x47) else
    if (lg_cmp (s54.2.1 0) (s54.2.1 24)) = 0 then (if (lg_cmp (s54.2.1 1) (s54.2.1 25)) = 0 then (kb_PM_cut_122 N (kb_PM_cut_30 N n) s54 v1 v2 v3 x47) else
    kb_PM_cut_126 N (kb_PM_cut_30 N n) s54 v1 v2 v3 x47) else
    kb_PM_cut_126 N (kb_PM_cut_30 N n) s54 v1 v2 v3 x47) else
    kb_PM_cut_122 N (kb_PM_cut_30 N n) s54 v1 v2 v3 x47
def kb_PM_cut_0 (N : Nat) (σ : kS) (v1 : Int32) : Option (Int32 × kS) :=
  Option.bind (kf_PM_isIn N v1.toInt64 0 3) fun r6 =>
  if r6 = 0 then (some ((-1), σ)) else
  kk_let (kL σ 24 0) fun s20 =>
  kk_let (kL s20 25 0) fun s25 =>
  kb_PM_cut_30 N N s25 v1 10000 0
def kf_PM_cut (N : Nat) (σ : kS) (v1 : Int32) : Option (Int32 × kS) := kb_PM_cut_0 N σ v1
set_option maxHeartbeats 4000000 in
theorem lb_PM_cut_156 (o : Nat) (M : mv_M) (N : Nat) (k30 : mv_M → Nat → Int32 → Int32 → Int32 → Option (Int32 × mv_M)) (c30 : kS → Int32 → Int32 → Int32 → Option (Int32 × kS)) (hc30 : ∀ (σ : kS) (v1 : Int32) (v2 : Int32) (v3 : Int32), k30 (wr_PM o M σ) o v1 v2 v3 = (c30 σ v1 v2 v3).map (wq_PM o M))  (σ : kS) (v1 : Int32) (v2 : Int32) (v3 : Int32) : jb_PM_cut_156 N k30 (wr_PM o M σ) o v1 v2 v3 = (kb_PM_cut_156 N c30 σ v1 v2 v3).map (wq_PM o M) := by
  unfold jb_PM_cut_156 kb_PM_cut_156
  exact hc30 _ _ _ _
set_option maxHeartbeats 4000000 in
theorem lb_PM_cut_127 (o : Nat) (M : mv_M) (N : Nat) (k30 : mv_M → Nat → Int32 → Int32 → Int32 → Option (Int32 × mv_M)) (c30 : kS → Int32 → Int32 → Int32 → Option (Int32 × kS)) (hc30 : ∀ (σ : kS) (v1 : Int32) (v2 : Int32) (v3 : Int32), k30 (wr_PM o M σ) o v1 v2 v3 = (c30 σ v1 v2 v3).map (wq_PM o M))  (σ : kS) (v1 : Int32) (v2 : Int32) (v3 : Int32) (v4 : Int32) (s0 : Int32) : jb_PM_cut_127 N k30 (wr_PM o M σ) o v1 v2 v3 v4 s0 = (kb_PM_cut_127 N c30 σ v1 v2 v3 v4 s0).map (wq_PM o M) := by
  unfold jb_PM_cut_127 kb_PM_cut_127
  refine km_ite (fun _ => ?_) (fun _ => ?_)
  · exact lb_PM_cut_156 o M N _ _ hc30 _ _ _ _
  · first | rw [wg_PM_0, Option.bind_some] | rw [Option.bind_some]
    rw [wp_PM_24, Option.bind_some]
    refine km_let ?_
    first | rw [wg_PM_1, Option.bind_some] | rw [Option.bind_some]
    rw [wp_PM_25, Option.bind_some]
    refine km_let ?_
    exact lb_PM_cut_156 o M N _ _ hc30 _ _ _ _
set_option maxHeartbeats 4000000 in
theorem lb_PM_cut_122 (o : Nat) (M : mv_M) (N : Nat) (k30 : mv_M → Nat → Int32 → Int32 → Int32 → Option (Int32 × mv_M)) (c30 : kS → Int32 → Int32 → Int32 → Option (Int32 × kS)) (hc30 : ∀ (σ : kS) (v1 : Int32) (v2 : Int32) (v3 : Int32), k30 (wr_PM o M σ) o v1 v2 v3 = (c30 σ v1 v2 v3).map (wq_PM o M))  (σ : kS) (v1 : Int32) (v2 : Int32) (v3 : Int32) (v4 : Int32) : jb_PM_cut_122 N k30 (wr_PM o M σ) o v1 v2 v3 v4 = (kb_PM_cut_122 N c30 σ v1 v2 v3 v4).map (wq_PM o M) := by
  unfold jb_PM_cut_122 kb_PM_cut_122
  exact lb_PM_cut_127 o M N _ _ hc30 _ _ _ _ _ _
set_option maxHeartbeats 4000000 in
theorem lb_PM_cut_126 (o : Nat) (M : mv_M) (N : Nat) (k30 : mv_M → Nat → Int32 → Int32 → Int32 → Option (Int32 × mv_M)) (c30 : kS → Int32 → Int32 → Int32 → Option (Int32 × kS)) (hc30 : ∀ (σ : kS) (v1 : Int32) (v2 : Int32) (v3 : Int32), k30 (wr_PM o M σ) o v1 v2 v3 = (c30 σ v1 v2 v3).map (wq_PM o M))  (σ : kS) (v1 : Int32) (v2 : Int32) (v3 : Int32) (v4 : Int32) : jb_PM_cut_126 N k30 (wr_PM o M σ) o v1 v2 v3 v4 = (kb_PM_cut_126 N c30 σ v1 v2 v3 v4).map (wq_PM o M) := by
  unfold jb_PM_cut_126 kb_PM_cut_126
  exact lb_PM_cut_127 o M N _ _ hc30 _ _ _ _ _ _
set_option maxHeartbeats 4000000 in
theorem lb_PM_cut_30 (o : Nat) (M : mv_M) (N : Nat) : ∀ (n : Nat) (σ : kS) (v1 : Int32) (v2 : Int32) (v3 : Int32), jb_PM_cut_30 N n (wr_PM o M σ) o v1 v2 v3 = (kb_PM_cut_30 N n σ v1 v2 v3).map (wq_PM o M) := by
  intro n
  induction n with
  | zero => intros; rfl
  | succ n ih =>
    intro σ v1 v2 v3
    rw [jb_PM_cut_30, kb_PM_cut_30]
    first | rw [wg_PM_20, Option.bind_some] | rw [Option.bind_some]
    refine km_ite (fun _ => ?_) (fun _ => ?_)
    · rfl
    · first | rw [wg_PM_21, Option.bind_some] | rw [Option.bind_some]
      rw [Option.bind_some]
      try rw [wl_PM_21]
      refine km_bind (fun x47 => ?_)
      try rw [wo_PM]
      try rw [lf_PM_costs]
      refine km_call (fun r54 s54 => ?_)
      refine km_ite (fun _ => ?_) (fun _ => ?_)
      · exact lb_PM_cut_156 o M N _ _ ih _ _ _ _
      · refine km_ite (fun _ => ?_) (fun _ => ?_)
        · exact lb_PM_cut_122 o M N _ _ ih _ _ _ _ _
        · first | rw [wg_PM_24, Option.bind_some] | rw [Option.bind_some]
          first | rw [wg_PM_25, Option.bind_some] | rw [Option.bind_some]
          first | rw [wg_PM_0, Option.bind_some] | rw [Option.bind_some]
          first | rw [wg_PM_1, Option.bind_some] | rw [Option.bind_some]
          try rw [lf_PM_isAbove]
          refine km_callP (fun r86 => ?_)
          refine km_ite (fun _ => ?_) (fun _ => ?_)
          · refine km_ite (fun _ => ?_) (fun _ => ?_)
            · exact lb_PM_cut_126 o M N _ _ ih _ _ _ _ _
            · first | rw [wg_PM_0, Option.bind_some] | rw [Option.bind_some]
              first | rw [wg_PM_24, Option.bind_some] | rw [Option.bind_some]
              refine km_ite (fun _ => ?_) (fun _ => ?_)
              · first | rw [wg_PM_1, Option.bind_some] | rw [Option.bind_some]
                first | rw [wg_PM_25, Option.bind_some] | rw [Option.bind_some]
                refine km_ite (fun _ => ?_) (fun _ => ?_)
                · exact lb_PM_cut_122 o M N _ _ ih _ _ _ _ _
                · exact lb_PM_cut_126 o M N _ _ ih _ _ _ _ _
              · exact lb_PM_cut_126 o M N _ _ ih _ _ _ _ _
          · exact lb_PM_cut_122 o M N _ _ ih _ _ _ _ _
set_option maxHeartbeats 4000000 in
theorem lb_PM_cut_0 (o : Nat) (M : mv_M) (N : Nat)  (σ : kS) (v1 : Int32) : jb_PM_cut_0 N (wr_PM o M σ) o v1 = (kb_PM_cut_0 N σ v1).map (wq_PM o M) := by
  unfold jb_PM_cut_0 kb_PM_cut_0
  try rw [lf_PM_isIn]
  refine km_callP (fun r6 => ?_)
  refine km_ite (fun _ => ?_) (fun _ => ?_)
  · rfl
  · rw [wp_PM_24, Option.bind_some]
    refine km_let ?_
    rw [wp_PM_25, Option.bind_some]
    refine km_let ?_
    exact lb_PM_cut_30 o M N N _ _ _ _
theorem lf_PM_cut (o : Nat) (M : mv_M) (N : Nat) (σ : kS) (v1 : Int32) : jf_PM_cut N (wr_PM o M σ) o v1 = (kf_PM_cut N σ v1).map (wq_PM o M) := lb_PM_cut_0 o M N σ v1
/-! ===== PlainLearnerModel.cost(III)J ===== -/
def kb_PM_cost_22 (N : Nat) (σ : kS) : Option (Int64 × kS) :=
  some ((-1099511627776), σ)
def kb_PM_cost_0 (N : Nat) (σ : kS) (v1 : Int32) (v2 : Int32) (v3 : Int32) : Option (Int64 × kS) :=
  Option.bind (kf_PM_isIn N v1.toInt64 0 3) fun r6 =>
  if r6 = 0 then (kb_PM_cost_22 N σ) else
  Option.bind (kf_PM_isIn N v3.toInt64 0 1) fun r16 =>
  if r16 = 0 then (kb_PM_cost_22 N σ) else
  kk_call (kf_PM_costs N σ v1 v2) fun r29 s29 =>
  kk_call (kf_PM_told N s29 v3) fun r35 s35 =>
  some (r35, s35)
def kf_PM_cost (N : Nat) (σ : kS) (v1 : Int32) (v2 : Int32) (v3 : Int32) : Option (Int64 × kS) := kb_PM_cost_0 N σ v1 v2 v3
set_option maxHeartbeats 4000000 in
theorem lb_PM_cost_22 (o : Nat) (M : mv_M) (N : Nat)  (σ : kS) : jb_PM_cost_22 N (wr_PM o M σ) = (kb_PM_cost_22 N σ).map (wq_PM o M) := by
  unfold jb_PM_cost_22 kb_PM_cost_22
  rfl
set_option maxHeartbeats 4000000 in
theorem lb_PM_cost_0 (o : Nat) (M : mv_M) (N : Nat)  (σ : kS) (v1 : Int32) (v2 : Int32) (v3 : Int32) : jb_PM_cost_0 N (wr_PM o M σ) o v1 v2 v3 = (kb_PM_cost_0 N σ v1 v2 v3).map (wq_PM o M) := by
  unfold jb_PM_cost_0 kb_PM_cost_0
  try rw [lf_PM_isIn]
  refine km_callP (fun r6 => ?_)
  refine km_ite (fun _ => ?_) (fun _ => ?_)
  · exact lb_PM_cost_22 o M N _
  · try rw [lf_PM_isIn]
    refine km_callP (fun r16 => ?_)
    refine km_ite (fun _ => ?_) (fun _ => ?_)
    · exact lb_PM_cost_22 o M N _
    · try rw [wo_PM]
      try rw [lf_PM_costs]
      refine km_call (fun r29 s29 => ?_)
      try rw [wo_PM]
      try rw [lf_PM_told]
      refine km_call (fun r35 s35 => ?_)
      rfl
theorem lf_PM_cost (o : Nat) (M : mv_M) (N : Nat) (σ : kS) (v1 : Int32) (v2 : Int32) (v3 : Int32) : jf_PM_cost N (wr_PM o M σ) o v1 v2 v3 = (kf_PM_cost N σ v1 v2 v3).map (wq_PM o M) := lb_PM_cost_0 o M N σ v1 v2 v3
/-! ===== PlainLearnerModel.best()I ===== -/
def kb_PM_best_69 (N : Nat) (c11 : kS → Int32 → Int64 → Int64 → Int32 → Option (Int32 × kS)) (σ : kS) (v1 : Int32) (v2 : Int64) (v4 : Int64) (v6 : Int32) : Option (Int32 × kS) :=
  c11 σ v1 v2 v4 (v6 + 1)
def kb_PM_best_55 (N : Nat) (c11 : kS → Int32 → Int64 → Int64 → Int32 → Option (Int32 × kS)) (σ : kS) (v6 : Int32) : Option (Int32 × kS) :=
  kb_PM_best_69 N c11 σ v6 (σ.2.1 24) (σ.2.1 25) v6
def kb_PM_best_11 (N : Nat) : Nat → kS → Int32 → Int64 → Int64 → Int32 → Option (Int32 × kS)
  | 0, _, _, _, _, _ => none
  | n + 1, σ, v1, v2, v4, v6 =>
    if 4 ≤ v6 then (some (v1, σ)) else
    kk_call (kf_PM_cut N σ v6) fun r20 s20 =>
    if r20 = 10000 then (kb_PM_best_69 N (kb_PM_best_11 N n) s20 v1 v2 v4 v6) else
    if v1 = (-2) then (kb_PM_best_55 N (kb_PM_best_11 N n) s20 v6) else
    Option.bind (kf_PM_isAbove N v2 v4 (s20.2.1 24) (s20.2.1 25)) fun r46 =>
    if r46 = 0 then (kb_PM_best_69 N (kb_PM_best_11 N n) s20 v1 v2 v4 v6) else
    kb_PM_best_55 N (kb_PM_best_11 N n) s20 v6
def kb_PM_best_0 (N : Nat) (σ : kS) : Option (Int32 × kS) :=
  kb_PM_best_11 N N σ (-2) 0 0 0
def kf_PM_best (N : Nat) (σ : kS) : Option (Int32 × kS) := kb_PM_best_0 N σ
set_option maxHeartbeats 4000000 in
theorem lb_PM_best_69 (o : Nat) (M : mv_M) (N : Nat) (k11 : mv_M → Nat → Int32 → Int64 → Int64 → Int32 → Option (Int32 × mv_M)) (c11 : kS → Int32 → Int64 → Int64 → Int32 → Option (Int32 × kS)) (hc11 : ∀ (σ : kS) (v1 : Int32) (v2 : Int64) (v4 : Int64) (v6 : Int32), k11 (wr_PM o M σ) o v1 v2 v4 v6 = (c11 σ v1 v2 v4 v6).map (wq_PM o M))  (σ : kS) (v1 : Int32) (v2 : Int64) (v4 : Int64) (v6 : Int32) : jb_PM_best_69 N k11 (wr_PM o M σ) o v1 v2 v4 v6 = (kb_PM_best_69 N c11 σ v1 v2 v4 v6).map (wq_PM o M) := by
  unfold jb_PM_best_69 kb_PM_best_69
  exact hc11 _ _ _ _ _
set_option maxHeartbeats 4000000 in
theorem lb_PM_best_55 (o : Nat) (M : mv_M) (N : Nat) (k11 : mv_M → Nat → Int32 → Int64 → Int64 → Int32 → Option (Int32 × mv_M)) (c11 : kS → Int32 → Int64 → Int64 → Int32 → Option (Int32 × kS)) (hc11 : ∀ (σ : kS) (v1 : Int32) (v2 : Int64) (v4 : Int64) (v6 : Int32), k11 (wr_PM o M σ) o v1 v2 v4 v6 = (c11 σ v1 v2 v4 v6).map (wq_PM o M))  (σ : kS) (v6 : Int32) : jb_PM_best_55 N k11 (wr_PM o M σ) o v6 = (kb_PM_best_55 N c11 σ v6).map (wq_PM o M) := by
  unfold jb_PM_best_55 kb_PM_best_55
  first | rw [wg_PM_24, Option.bind_some] | rw [Option.bind_some]
  first | rw [wg_PM_25, Option.bind_some] | rw [Option.bind_some]
  exact lb_PM_best_69 o M N _ _ hc11 _ _ _ _ _
set_option maxHeartbeats 4000000 in
theorem lb_PM_best_11 (o : Nat) (M : mv_M) (N : Nat) : ∀ (n : Nat) (σ : kS) (v1 : Int32) (v2 : Int64) (v4 : Int64) (v6 : Int32), jb_PM_best_11 N n (wr_PM o M σ) o v1 v2 v4 v6 = (kb_PM_best_11 N n σ v1 v2 v4 v6).map (wq_PM o M) := by
  intro n
  induction n with
  | zero => intros; rfl
  | succ n ih =>
    intro σ v1 v2 v4 v6
    rw [jb_PM_best_11, kb_PM_best_11]
    refine km_ite (fun _ => ?_) (fun _ => ?_)
    · rfl
    · try rw [wo_PM]
      try rw [lf_PM_cut]
      refine km_call (fun r20 s20 => ?_)
      refine km_ite (fun _ => ?_) (fun _ => ?_)
      · exact lb_PM_best_69 o M N _ _ ih _ _ _ _ _
      · refine km_ite (fun _ => ?_) (fun _ => ?_)
        · exact lb_PM_best_55 o M N _ _ ih _ _
        · first | rw [wg_PM_24, Option.bind_some] | rw [Option.bind_some]
          first | rw [wg_PM_25, Option.bind_some] | rw [Option.bind_some]
          try rw [lf_PM_isAbove]
          refine km_callP (fun r46 => ?_)
          refine km_ite (fun _ => ?_) (fun _ => ?_)
          · exact lb_PM_best_69 o M N _ _ ih _ _ _ _ _
          · exact lb_PM_best_55 o M N _ _ ih _ _
set_option maxHeartbeats 4000000 in
theorem lb_PM_best_0 (o : Nat) (M : mv_M) (N : Nat)  (σ : kS) : jb_PM_best_0 N (wr_PM o M σ) o = (kb_PM_best_0 N σ).map (wq_PM o M) := by
  unfold jb_PM_best_0 kb_PM_best_0
  exact lb_PM_best_11 o M N N _ _ _ _ _
theorem lf_PM_best (o : Nat) (M : mv_M) (N : Nat) (σ : kS) : jf_PM_best N (wr_PM o M σ) o = (kf_PM_best N σ).map (wq_PM o M) := lb_PM_best_0 o M N σ
/-! ===== PlainLearnerModel.clear()I ===== -/
def kb_PM_clear_0 (N : Nat) (σ : kS) : Option (Int32 × kS) :=
  kk_let (kI σ 20 0) fun s7 =>
  some ((σ.1 20), s7)
def kf_PM_clear (N : Nat) (σ : kS) : Option (Int32 × kS) := kb_PM_clear_0 N σ
set_option maxHeartbeats 4000000 in
theorem lb_PM_clear_0 (o : Nat) (M : mv_M) (N : Nat)  (σ : kS) : jb_PM_clear_0 N (wr_PM o M σ) o = (kb_PM_clear_0 N σ).map (wq_PM o M) := by
  unfold jb_PM_clear_0 kb_PM_clear_0
  first | rw [wg_PM_20, Option.bind_some] | rw [Option.bind_some]
  rw [wp_PM_20, Option.bind_some]
  refine km_let ?_
  rfl
theorem lf_PM_clear (o : Nat) (M : mv_M) (N : Nat) (σ : kS) : jf_PM_clear N (wr_PM o M σ) o = (kf_PM_clear N σ).map (wq_PM o M) := lb_PM_clear_0 o M N σ
