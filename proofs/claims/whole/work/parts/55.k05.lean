/-! ===== PlainLearnerModel.merged(II)I ===== -/
def kb_PM_merged_28 (N : Nat) (σ : kS) : Option (Int32 × kS) :=
  some ((-1), σ)
def kb_PM_merged_125 (N : Nat) (c57 : kS → Int32 → Int32 → Option (Int32 × kS)) (σ : kS) (v1 : Int32) (v3 : Int32) (s1 : Int32) (s2 : Int32) (s3 : Int32) : Option (Int32 × kS) :=
  mj_gd s1 60 <| kk_let (kA σ 36 s1.toNatClampNeg (s2 + s3)) fun s126 =>
  c57 s126 v1 (v3 + 1)
def kb_PM_merged_96 (N : Nat) (c57 : kS → Int32 → Int32 → Option (Int32 × kS)) (σ : kS) (v1 : Int32) (v3 : Int32) (s1 : Int32) (s2 : Int32) : Option (Int32 × kS) :=
  Option.bind (mj_tab (σ.2.2.1 35) 60 v3) fun x101 =>
  if 26 ≤ x101 then (Option.bind (mj_tab (σ.2.2.1 35) 60 v3) fun x120 =>
  Option.bind (mj_tab (σ.2.2.1 36) 60 (x120 - 26)) fun x124 =>
  kb_PM_merged_125 N c57 σ v1 v3 s1 s2 x124) else
  kb_PM_merged_125 N c57 σ v1 v3 s1 s2 1
def kb_PM_merged_57 (N : Nat) : Nat → kS → Int32 → Int32 → Option (Int32 × kS)
  | 0, _, _, _ => none
  | n + 1, σ, v1, v3 =>
    if v1 < v3 then (Option.bind (mj_tab (σ.2.2.1 36) 60 v1) fun x138 =>
    some (x138, σ)) else
    Option.bind (mj_tab (σ.2.2.1 34) 60 v3) fun x72 =>
    if 26 ≤ x72 then (Option.bind (mj_tab (σ.2.2.1 34) 60 v3) fun x91 =>
    Option.bind (mj_tab (σ.2.2.1 36) 60 (x91 - 26)) fun x95 =>
    kb_PM_merged_96 N (kb_PM_merged_57 N n) σ v1 v3 v3 x95) else
    kb_PM_merged_96 N (kb_PM_merged_57 N n) σ v1 v3 v3 1
def kb_PM_merged_54 (N : Nat) (σ : kS) (s0 : Int32) : Option (Int32 × kS) :=
  some (s0, σ)
def kb_PM_merged_0 (N : Nat) (σ : kS) (v1 : Int32) (v2 : Int32) : Option (Int32 × kS) :=
  Option.bind (kf_PM_isIn N v1.toInt64 0 (((σ.1 33) - 1).toInt64)) fun r10 =>
  if r10 = 0 then (kb_PM_merged_28 N σ) else
  Option.bind (kf_PM_isIn N v2.toInt64 0 2) fun r22 =>
  if r22 = 0 then (kb_PM_merged_28 N σ) else
  if 2 ≤ v2 then (kb_PM_merged_57 N N σ v1 0) else
  if v2 = 0 then (Option.bind (mj_tab (σ.2.2.1 34) 60 v1) fun x44 =>
  kb_PM_merged_54 N σ x44) else
  Option.bind (mj_tab (σ.2.2.1 35) 60 v1) fun x53 =>
  kb_PM_merged_54 N σ x53
def kf_PM_merged (N : Nat) (σ : kS) (v1 : Int32) (v2 : Int32) : Option (Int32 × kS) := kb_PM_merged_0 N σ v1 v2
set_option maxHeartbeats 4000000 in
theorem lb_PM_merged_28 (o : Nat) (M : mv_M) (N : Nat)  (σ : kS) : jb_PM_merged_28 N (wr_PM o M σ) = (kb_PM_merged_28 N σ).map (wq_PM o M) := by
  unfold jb_PM_merged_28 kb_PM_merged_28
  rfl
set_option maxHeartbeats 4000000 in
theorem lb_PM_merged_125 (o : Nat) (M : mv_M) (N : Nat) (k57 : mv_M → Nat → Int32 → Int32 → Option (Int32 × mv_M)) (c57 : kS → Int32 → Int32 → Option (Int32 × kS)) (hc57 : ∀ (σ : kS) (v1 : Int32) (v3 : Int32), k57 (wr_PM o M σ) o v1 v3 = (c57 σ v1 v3).map (wq_PM o M))  (σ : kS) (v1 : Int32) (v3 : Int32) (s1 : Int32) (s2 : Int32) (s3 : Int32) : jb_PM_merged_125 N k57 (wr_PM o M σ) o v1 v3 (some (o + 20)) s1 s2 s3 = (kb_PM_merged_125 N c57 σ v1 v3 s1 s2 s3).map (wq_PM o M) := by
  unfold jb_PM_merged_125 kb_PM_merged_125
  rw [Option.bind_some]
  rw [wx_PM_36]
  refine km_gd (fun _ => ?_)
  refine km_let ?_
  exact hc57 _ _ _
set_option maxHeartbeats 4000000 in
theorem lb_PM_merged_96 (o : Nat) (M : mv_M) (N : Nat) (k57 : mv_M → Nat → Int32 → Int32 → Option (Int32 × mv_M)) (c57 : kS → Int32 → Int32 → Option (Int32 × kS)) (hc57 : ∀ (σ : kS) (v1 : Int32) (v3 : Int32), k57 (wr_PM o M σ) o v1 v3 = (c57 σ v1 v3).map (wq_PM o M))  (σ : kS) (v1 : Int32) (v3 : Int32) (s1 : Int32) (s2 : Int32) : jb_PM_merged_96 N k57 (wr_PM o M σ) o v1 v3 (some (o + 20)) s1 s2 = (kb_PM_merged_96 N c57 σ v1 v3 s1 s2).map (wq_PM o M) := by
  unfold jb_PM_merged_96 kb_PM_merged_96
  first | rw [wg_PM_35, Option.bind_some] | rw [Option.bind_some]
  rw [Option.bind_some]
  try rw [wl_PM_35]
  refine km_bind (fun x101 => ?_)
  refine km_ite (fun _ => ?_) (fun _ => ?_)
  · first | rw [wg_PM_36, Option.bind_some] | rw [Option.bind_some]
    first | rw [wg_PM_35, Option.bind_some] | rw [Option.bind_some]
    rw [Option.bind_some]
    try rw [wl_PM_35]
    refine km_bind (fun x120 => ?_)
    rw [Option.bind_some]
    try rw [wl_PM_36]
    refine km_bind (fun x124 => ?_)
    exact lb_PM_merged_125 o M N _ _ hc57 _ _ _ _ _ _
  · exact lb_PM_merged_125 o M N _ _ hc57 _ _ _ _ _ _
set_option maxHeartbeats 4000000 in
theorem lb_PM_merged_57 (o : Nat) (M : mv_M) (N : Nat) : ∀ (n : Nat) (σ : kS) (v1 : Int32) (v3 : Int32), jb_PM_merged_57 N n (wr_PM o M σ) o v1 v3 = (kb_PM_merged_57 N n σ v1 v3).map (wq_PM o M) := by
  intro n
  induction n with
  | zero => intros; rfl
  | succ n ih =>
    intro σ v1 v3
    rw [jb_PM_merged_57, kb_PM_merged_57]
    refine km_ite (fun _ => ?_) (fun _ => ?_)
    · first | rw [wg_PM_36, Option.bind_some] | rw [Option.bind_some]
      rw [Option.bind_some]
      try rw [wl_PM_36]
      refine km_bind (fun x138 => ?_)
      rfl
    · first | rw [wg_PM_36, Option.bind_some] | rw [Option.bind_some]
      first | rw [wg_PM_34, Option.bind_some] | rw [Option.bind_some]
      rw [Option.bind_some]
      try rw [wl_PM_34]
      refine km_bind (fun x72 => ?_)
      refine km_ite (fun _ => ?_) (fun _ => ?_)
      · first | rw [wg_PM_36, Option.bind_some] | rw [Option.bind_some]
        first | rw [wg_PM_34, Option.bind_some] | rw [Option.bind_some]
        rw [Option.bind_some]
        try rw [wl_PM_34]
        refine km_bind (fun x91 => ?_)
        rw [Option.bind_some]
        try rw [wl_PM_36]
        refine km_bind (fun x95 => ?_)
        exact lb_PM_merged_96 o M N _ _ ih _ _ _ _ _
      · exact lb_PM_merged_96 o M N _ _ ih _ _ _ _ _
set_option maxHeartbeats 4000000 in
theorem lb_PM_merged_54 (o : Nat) (M : mv_M) (N : Nat)  (σ : kS) (s0 : Int32) : jb_PM_merged_54 N (wr_PM o M σ) s0 = (kb_PM_merged_54 N σ s0).map (wq_PM o M) := by
  unfold jb_PM_merged_54 kb_PM_merged_54
  rfl
set_option maxHeartbeats 4000000 in
theorem lb_PM_merged_0 (o : Nat) (M : mv_M) (N : Nat)  (σ : kS) (v1 : Int32) (v2 : Int32) : jb_PM_merged_0 N (wr_PM o M σ) o v1 v2 = (kb_PM_merged_0 N σ v1 v2).map (wq_PM o M) := by
  unfold jb_PM_merged_0 kb_PM_merged_0
  first | rw [wg_PM_33, Option.bind_some] | rw [Option.bind_some]
  try rw [lf_PM_isIn]
  refine km_callP (fun r10 => ?_)
  refine km_ite (fun _ => ?_) (fun _ => ?_)
  · exact lb_PM_merged_28 o M N _
  · try rw [lf_PM_isIn]
    refine km_callP (fun r22 => ?_)
    refine km_ite (fun _ => ?_) (fun _ => ?_)
    · exact lb_PM_merged_28 o M N _
    · refine km_ite (fun _ => ?_) (fun _ => ?_)
      · exact lb_PM_merged_57 o M N N _ _ _
      · refine km_ite (fun _ => ?_) (fun _ => ?_)
        · first | rw [wg_PM_34, Option.bind_some] | rw [Option.bind_some]
          rw [Option.bind_some]
          try rw [wl_PM_34]
          refine km_bind (fun x44 => ?_)
          exact lb_PM_merged_54 o M N _ _
        · first | rw [wg_PM_35, Option.bind_some] | rw [Option.bind_some]
          rw [Option.bind_some]
          try rw [wl_PM_35]
          refine km_bind (fun x53 => ?_)
          exact lb_PM_merged_54 o M N _ _
theorem lf_PM_merged (o : Nat) (M : mv_M) (N : Nat) (σ : kS) (v1 : Int32) (v2 : Int32) : jf_PM_merged N (wr_PM o M σ) o v1 v2 = (kf_PM_merged N σ v1 v2).map (wq_PM o M) := lb_PM_merged_0 o M N σ v1 v2
/-! ===== PlainLearnerModel.encode()I ===== -/
def kb_PM_encode_2 (N : Nat) : Nat → kS → Int32 → Option (Int32 × kS)
  | 0, _, _ => none
  | n + 1, σ, v1 =>
    if (σ.1 33) ≤ v1 then (some ((σ.1 31), σ)) else
    Option.bind (mj_tab (σ.2.2.1 34) 60 v1) fun x16 =>
    Option.bind (mj_tab (σ.2.2.1 35) 60 v1) fun x22 =>
    kk_call (kf_PM_joins N σ x16 x22 (26 + v1)) fun r27 s27 =>
    kb_PM_encode_2 N n s27 (v1 + 1)
def kb_PM_encode_0 (N : Nat) (σ : kS) : Option (Int32 × kS) :=
  kb_PM_encode_2 N N σ 0
def kf_PM_encode (N : Nat) (σ : kS) : Option (Int32 × kS) := kb_PM_encode_0 N σ
set_option maxHeartbeats 4000000 in
theorem lb_PM_encode_2 (o : Nat) (M : mv_M) (N : Nat) : ∀ (n : Nat) (σ : kS) (v1 : Int32), jb_PM_encode_2 N n (wr_PM o M σ) o v1 = (kb_PM_encode_2 N n σ v1).map (wq_PM o M) := by
  intro n
  induction n with
  | zero => intros; rfl
  | succ n ih =>
    intro σ v1
    rw [jb_PM_encode_2, kb_PM_encode_2]
    first | rw [wg_PM_33, Option.bind_some] | rw [Option.bind_some]
    refine km_ite (fun _ => ?_) (fun _ => ?_)
    · first | rw [wg_PM_31, Option.bind_some] | rw [Option.bind_some]
      rfl
    · first | rw [wg_PM_34, Option.bind_some] | rw [Option.bind_some]
      rw [Option.bind_some]
      try rw [wl_PM_34]
      refine km_bind (fun x16 => ?_)
      first | rw [wg_PM_35, Option.bind_some] | rw [Option.bind_some]
      rw [Option.bind_some]
      try rw [wl_PM_35]
      refine km_bind (fun x22 => ?_)
      try rw [wo_PM]
      try rw [lf_PM_joins]
      refine km_call (fun r27 s27 => ?_)
      exact ih _ _
set_option maxHeartbeats 4000000 in
theorem lb_PM_encode_0 (o : Nat) (M : mv_M) (N : Nat)  (σ : kS) : jb_PM_encode_0 N (wr_PM o M σ) o = (kb_PM_encode_0 N σ).map (wq_PM o M) := by
  unfold jb_PM_encode_0 kb_PM_encode_0
  exact lb_PM_encode_2 o M N N _ _
theorem lf_PM_encode (o : Nat) (M : mv_M) (N : Nat) (σ : kS) : jf_PM_encode N (wr_PM o M σ) o = (kf_PM_encode N σ).map (wq_PM o M) := lb_PM_encode_0 o M N σ
/-! ===== PlainLearnerModel.token(I)I ===== -/
def kb_PM_token_27 (N : Nat) (σ : kS) (s0 : Int32) : Option (Int32 × kS) :=
  some (s0, σ)
def kb_PM_token_0 (N : Nat) (σ : kS) (v1 : Int32) : Option (Int32 × kS) :=
  Option.bind (kf_PM_isIn N v1.toInt64 0 (((σ.1 31) - 1).toInt64)) fun r10 =>
  if r10 = 0 then (kb_PM_token_27 N σ (-2)) else
  Option.bind (mj_tab (σ.2.2.1 32) 200 v1) fun x21 =>
  kb_PM_token_27 N σ x21
def kf_PM_token (N : Nat) (σ : kS) (v1 : Int32) : Option (Int32 × kS) := kb_PM_token_0 N σ v1
set_option maxHeartbeats 4000000 in
theorem lb_PM_token_27 (o : Nat) (M : mv_M) (N : Nat)  (σ : kS) (s0 : Int32) : jb_PM_token_27 N (wr_PM o M σ) s0 = (kb_PM_token_27 N σ s0).map (wq_PM o M) := by
  unfold jb_PM_token_27 kb_PM_token_27
  rfl
set_option maxHeartbeats 4000000 in
theorem lb_PM_token_0 (o : Nat) (M : mv_M) (N : Nat)  (σ : kS) (v1 : Int32) : jb_PM_token_0 N (wr_PM o M σ) o v1 = (kb_PM_token_0 N σ v1).map (wq_PM o M) := by
  unfold jb_PM_token_0 kb_PM_token_0
  first | rw [wg_PM_31, Option.bind_some] | rw [Option.bind_some]
  try rw [lf_PM_isIn]
  refine km_callP (fun r10 => ?_)
  refine km_ite (fun _ => ?_) (fun _ => ?_)
  · exact lb_PM_token_27 o M N _ _
  · first | rw [wg_PM_32, Option.bind_some] | rw [Option.bind_some]
    rw [Option.bind_some]
    try rw [wl_PM_32]
    refine km_bind (fun x21 => ?_)
    exact lb_PM_token_27 o M N _ _
theorem lf_PM_token (o : Nat) (M : mv_M) (N : Nat) (σ : kS) (v1 : Int32) : jf_PM_token N (wr_PM o M σ) o v1 = (kf_PM_token N σ v1).map (wq_PM o M) := lb_PM_token_0 o M N σ v1
/-! ===== PlainLearnerModel.count(I)I ===== -/
def kb_PM_count_101 (N : Nat) (c78 : kS → Int32 → Int32 → Option (Int32 × kS)) (σ : kS) (v3 : Int32) (s0 : Int32) (s1 : Int32) : Option (Int32 × kS) :=
  c78 σ (s0 + s1) (v3 + 1)
def kb_PM_count_78 (N : Nat) : Nat → kS → Int32 → Int32 → Option (Int32 × kS)
  | 0, _, _, _ => none
  | n + 1, σ, v2, v3 =>
    if (σ.1 2) ≤ v3 then (some (v2, σ)) else
    Option.bind (mj_tab (σ.2.2.1 8) 50 v3) fun x92 =>
    if x92 = 0 then (kb_PM_count_101 N (kb_PM_count_78 N n) σ v3 v2 0) else
    kb_PM_count_101 N (kb_PM_count_78 N n) σ v3 v2 1
def kb_PM_count_0 (N : Nat) (σ : kS) (v1 : Int32) : Option (Int32 × kS) :=
  if v1 = 0 then (some ((σ.1 2), σ)) else
  if v1 = 1 then (some ((σ.1 20), σ)) else
  if v1 = 2 then (some ((σ.1 26), σ)) else
  if v1 = 3 then (some ((σ.1 28), σ)) else
  if v1 = 4 then (some ((σ.1 31), σ)) else
  if v1 = 5 then (some ((σ.1 33), σ)) else
  if v1 = 6 then (kb_PM_count_78 N N σ 0 0) else
  some ((-1), σ)
def kf_PM_count (N : Nat) (σ : kS) (v1 : Int32) : Option (Int32 × kS) := kb_PM_count_0 N σ v1
set_option maxHeartbeats 4000000 in
theorem lb_PM_count_101 (o : Nat) (M : mv_M) (N : Nat) (k78 : mv_M → Nat → Int32 → Int32 → Option (Int32 × mv_M)) (c78 : kS → Int32 → Int32 → Option (Int32 × kS)) (hc78 : ∀ (σ : kS) (v2 : Int32) (v3 : Int32), k78 (wr_PM o M σ) o v2 v3 = (c78 σ v2 v3).map (wq_PM o M))  (σ : kS) (v3 : Int32) (s0 : Int32) (s1 : Int32) : jb_PM_count_101 N k78 (wr_PM o M σ) o v3 s0 s1 = (kb_PM_count_101 N c78 σ v3 s0 s1).map (wq_PM o M) := by
  unfold jb_PM_count_101 kb_PM_count_101
  exact hc78 _ _ _
set_option maxHeartbeats 4000000 in
theorem lb_PM_count_78 (o : Nat) (M : mv_M) (N : Nat) : ∀ (n : Nat) (σ : kS) (v2 : Int32) (v3 : Int32), jb_PM_count_78 N n (wr_PM o M σ) o v2 v3 = (kb_PM_count_78 N n σ v2 v3).map (wq_PM o M) := by
  intro n
  induction n with
  | zero => intros; rfl
  | succ n ih =>
    intro σ v2 v3
    rw [jb_PM_count_78, kb_PM_count_78]
    first | rw [wg_PM_2, Option.bind_some] | rw [Option.bind_some]
    refine km_ite (fun _ => ?_) (fun _ => ?_)
    · rfl
    · first | rw [wg_PM_8, Option.bind_some] | rw [Option.bind_some]
      rw [Option.bind_some]
      try rw [wl_PM_8]
      refine km_bind (fun x92 => ?_)
      refine km_ite (fun _ => ?_) (fun _ => ?_)
      · exact lb_PM_count_101 o M N _ _ ih _ _ _ _
      · exact lb_PM_count_101 o M N _ _ ih _ _ _ _
set_option maxHeartbeats 4000000 in
theorem lb_PM_count_0 (o : Nat) (M : mv_M) (N : Nat)  (σ : kS) (v1 : Int32) : jb_PM_count_0 N (wr_PM o M σ) o v1 = (kb_PM_count_0 N σ v1).map (wq_PM o M) := by
  unfold jb_PM_count_0 kb_PM_count_0
  refine km_ite (fun _ => ?_) (fun _ => ?_)
  · first | rw [wg_PM_2, Option.bind_some] | rw [Option.bind_some]
    rfl
  refine km_ite (fun _ => ?_) (fun _ => ?_)
  · first | rw [wg_PM_20, Option.bind_some] | rw [Option.bind_some]
    rfl
  refine km_ite (fun _ => ?_) (fun _ => ?_)
  · first | rw [wg_PM_26, Option.bind_some] | rw [Option.bind_some]
    rfl
  refine km_ite (fun _ => ?_) (fun _ => ?_)
  · first | rw [wg_PM_28, Option.bind_some] | rw [Option.bind_some]
    rfl
  refine km_ite (fun _ => ?_) (fun _ => ?_)
  · first | rw [wg_PM_31, Option.bind_some] | rw [Option.bind_some]
    rfl
  refine km_ite (fun _ => ?_) (fun _ => ?_)
  · first | rw [wg_PM_33, Option.bind_some] | rw [Option.bind_some]
    rfl
  refine km_ite (fun _ => ?_) (fun _ => ?_)
  · exact lb_PM_count_78 o M N N _ _ _
  rfl
theorem lf_PM_count (o : Nat) (M : mv_M) (N : Nat) (σ : kS) (v1 : Int32) : jf_PM_count N (wr_PM o M σ) o v1 = (kf_PM_count N σ v1).map (wq_PM o M) := lb_PM_count_0 o M N σ v1
/-! ===== PlainLearner$Table.addRow(IIIII)I ===== -/
def kb_Ta_addRow_40 (N : Nat) (σ : kS) : Option (Int32 × kS) :=
  some ((-1), σ)
def kb_Ta_addRow_0 (N : Nat) (σ : kS) (v1 : Int32) (v2 : Int32) (v3 : Int32) (v4 : Int32) (v5 : Int32) : Option (Int32 × kS) :=
  Option.bind (kf_Ta_isNumber N v1) fun r1 =>
  if r1 = 0 then (kb_Ta_addRow_40 N σ) else
  Option.bind (kf_Ta_isNumber N v2) fun r8 =>
  if r8 = 0 then (kb_Ta_addRow_40 N σ) else
  Option.bind (kf_Ta_isNumber N v3) fun r15 =>
  if r15 = 0 then (kb_Ta_addRow_40 N σ) else
  Option.bind (kf_Ta_isNumber N v4) fun r23 =>
  if r23 = 0 then (kb_Ta_addRow_40 N σ) else
  if v5 < 0 then (kb_Ta_addRow_40 N σ) else
  if v5 < 4 then (if (σ.1 4) < 40 then (mj_gd ((σ.1 4) * 4) 160 <| kk_let (kA σ 0 ((σ.1 4) * 4).toNatClampNeg v1) fun s69 =>
  mj_gd (((σ.1 4) * 4) + 1) 160 <| kk_let (kA s69 0 (((σ.1 4) * 4) + 1).toNatClampNeg v2) fun s79 =>
  mj_gd (((σ.1 4) * 4) + 2) 160 <| kk_let (kA s79 0 (((σ.1 4) * 4) + 2).toNatClampNeg v3) fun s89 =>
  mj_gd (((σ.1 4) * 4) + 3) 160 <| kk_let (kA s89 0 (((σ.1 4) * 4) + 3).toNatClampNeg v4) fun s100 =>
  mj_gd (s100.1 4) 40 <| kk_let (kA s100 1 (s100.1 4).toNatClampNeg v5) fun s111 =>
  kk_let (kI s111 4 ((s111.1 4) + 1)) fun s119 =>
  some ((s119.1 4), s119)) else
  some ((-3), σ)) else
  kb_Ta_addRow_40 N σ
def kf_Ta_addRow (N : Nat) (σ : kS) (v1 : Int32) (v2 : Int32) (v3 : Int32) (v4 : Int32) (v5 : Int32) : Option (Int32 × kS) := kb_Ta_addRow_0 N σ v1 v2 v3 v4 v5
set_option maxHeartbeats 4000000 in
theorem lb_Ta_addRow_40 (o : Nat) (M : mv_M) (N : Nat)  (σ : kS) : jb_Ta_addRow_40 N (wr_Ta o M σ) = (kb_Ta_addRow_40 N σ).map (wq_Ta o M) := by
  unfold jb_Ta_addRow_40 kb_Ta_addRow_40
  rfl
set_option maxHeartbeats 4000000 in
theorem lb_Ta_addRow_0 (o : Nat) (M : mv_M) (N : Nat)  (σ : kS) (v1 : Int32) (v2 : Int32) (v3 : Int32) (v4 : Int32) (v5 : Int32) : jb_Ta_addRow_0 N (wr_Ta o M σ) o v1 v2 v3 v4 v5 = (kb_Ta_addRow_0 N σ v1 v2 v3 v4 v5).map (wq_Ta o M) := by
  unfold jb_Ta_addRow_0 kb_Ta_addRow_0
  try rw [lf_Ta_isNumber]
  refine km_callP (fun r1 => ?_)
  refine km_ite (fun _ => ?_) (fun _ => ?_)
  · exact lb_Ta_addRow_40 o M N _
  · try rw [lf_Ta_isNumber]
    refine km_callP (fun r8 => ?_)
    refine km_ite (fun _ => ?_) (fun _ => ?_)
    · exact lb_Ta_addRow_40 o M N _
    · try rw [lf_Ta_isNumber]
      refine km_callP (fun r15 => ?_)
      refine km_ite (fun _ => ?_) (fun _ => ?_)
      · exact lb_Ta_addRow_40 o M N _
      · try rw [lf_Ta_isNumber]
        refine km_callP (fun r23 => ?_)
        refine km_ite (fun _ => ?_) (fun _ => ?_)
        · exact lb_Ta_addRow_40 o M N _
        · refine km_ite (fun _ => ?_) (fun _ => ?_)
          · exact lb_Ta_addRow_40 o M N _
          · refine km_ite (fun _ => ?_) (fun _ => ?_)
            · first | rw [wg_Ta_4, Option.bind_some] | rw [Option.bind_some]
              refine km_ite (fun _ => ?_) (fun _ => ?_)
              · first | rw [wg_Ta_4, Option.bind_some] | rw [Option.bind_some]
                first | rw [wg_Ta_0, Option.bind_some] | rw [Option.bind_some]
                rw [Option.bind_some]
                rw [wx_Ta_0]
                refine km_gd (fun _ => ?_)
                refine km_let ?_
                skip
                first | rw [wg_Ta_0, Option.bind_some] | rw [Option.bind_some]
                rw [Option.bind_some]
                rw [wx_Ta_0]
                refine km_gd (fun _ => ?_)
                refine km_let ?_
                skip
                first | rw [wg_Ta_0, Option.bind_some] | rw [Option.bind_some]
                rw [Option.bind_some]
                rw [wx_Ta_0]
                refine km_gd (fun _ => ?_)
                refine km_let ?_
                skip
                first | rw [wg_Ta_0, Option.bind_some] | rw [Option.bind_some]
                rw [Option.bind_some]
                rw [wx_Ta_0]
                refine km_gd (fun _ => ?_)
                refine km_let ?_
                skip
                first | rw [wg_Ta_1, Option.bind_some] | rw [Option.bind_some]
                first | rw [wg_Ta_4, Option.bind_some] | rw [Option.bind_some]
                rw [Option.bind_some]
                rw [wx_Ta_1]
                refine km_gd (fun _ => ?_)
                refine km_let ?_
                skip
                first | rw [wg_Ta_4, Option.bind_some] | rw [Option.bind_some]
                rw [wp_Ta_4, Option.bind_some]
                refine km_let ?_
                first | rw [wg_Ta_4, Option.bind_some] | rw [Option.bind_some]
                rfl
              · rfl
            · exact lb_Ta_addRow_40 o M N _
theorem lf_Ta_addRow (o : Nat) (M : mv_M) (N : Nat) (σ : kS) (v1 : Int32) (v2 : Int32) (v3 : Int32) (v4 : Int32) (v5 : Int32) : jf_Ta_addRow N (wr_Ta o M σ) o v1 v2 v3 v4 v5 = (kf_Ta_addRow N σ v1 v2 v3 v4 v5).map (wq_Ta o M) := lb_Ta_addRow_0 o M N σ v1 v2 v3 v4 v5
/-! ===== PlainLearner$Table.squares for Ta_squares_Ta2 ===== -/
def kb_Ta_squares_Ta2_11 (N : Nat) : Nat → kS → Int64 → Int32 → Int32 → Option (Int64 × kS)
  | 0, _, _, _, _ => none
  | n + 1, σ, v1, v4, v5 =>
    if v4 ≤ v5 then (some (v1, σ)) else
    Option.bind (mj_tab (σ.2.2.1 2) 4 v5) fun x21 =>
    kb_Ta_squares_Ta2_11 N n σ (v1 + (x21.toInt64 * x21.toInt64)) v4 (v5 + 1)
def kb_Ta_squares_Ta2_0 (N : Nat) (σ : kS) : Option (Int64 × kS) :=
  kb_Ta_squares_Ta2_11 N N σ 0 4 0
def kf_Ta_squares_Ta2 (N : Nat) (σ : kS) : Option (Int64 × kS) := kb_Ta_squares_Ta2_0 N σ
set_option maxHeartbeats 4000000 in
theorem lb_Ta_squares_Ta2_11 (o : Nat) (M : mv_M) (N : Nat) : ∀ (n : Nat) (σ : kS) (v1 : Int64) (v4 : Int32) (v5 : Int32), jb_Ta_squares_11 N n (wr_Ta o M σ) v1 (some (o + 3)) v4 v5 = (kb_Ta_squares_Ta2_11 N n σ v1 v4 v5).map (wq_Ta o M) := by
  intro n
  induction n with
  | zero => intros; rfl
  | succ n ih =>
    intro σ v1 v4 v5
    rw [jb_Ta_squares_11, kb_Ta_squares_Ta2_11]
    refine km_ite (fun _ => ?_) (fun _ => ?_)
    · rfl
    · rw [Option.bind_some]
      try rw [wl_Ta_2]
      refine km_bind (fun x21 => ?_)
      exact ih _ _ _ _
set_option maxHeartbeats 4000000 in
theorem lb_Ta_squares_Ta2_0 (o : Nat) (M : mv_M) (N : Nat)  (σ : kS) : jb_Ta_squares_0 N (wr_Ta o M σ) (some (o + 3)) = (kb_Ta_squares_Ta2_0 N σ).map (wq_Ta o M) := by
  unfold jb_Ta_squares_0 kb_Ta_squares_Ta2_0
  rw [Option.bind_some]
  first | rw [wn_Ta_2, Option.bind_some] | rw [Option.bind_some]
  exact lb_Ta_squares_Ta2_11 o M N N _ _ _ _
theorem lf_Ta_squares_Ta2 (o : Nat) (M : mv_M) (N : Nat) (σ : kS) : jf_Ta_squares N (wr_Ta o M σ) (some (o + 3)) = (kf_Ta_squares_Ta2 N σ).map (wq_Ta o M) := lb_Ta_squares_Ta2_0 o M N σ
/-! ===== PlainLearner$Table.squares for Ta_squares_Ta3 ===== -/
def kb_Ta_squares_Ta3_11 (N : Nat) : Nat → kS → Int64 → Int32 → Int32 → Option (Int64 × kS)
  | 0, _, _, _, _ => none
  | n + 1, σ, v1, v4, v5 =>
    if v4 ≤ v5 then (some (v1, σ)) else
    Option.bind (mj_tab (σ.2.2.1 3) 4 v5) fun x21 =>
    kb_Ta_squares_Ta3_11 N n σ (v1 + (x21.toInt64 * x21.toInt64)) v4 (v5 + 1)
def kb_Ta_squares_Ta3_0 (N : Nat) (σ : kS) : Option (Int64 × kS) :=
  kb_Ta_squares_Ta3_11 N N σ 0 4 0
def kf_Ta_squares_Ta3 (N : Nat) (σ : kS) : Option (Int64 × kS) := kb_Ta_squares_Ta3_0 N σ
set_option maxHeartbeats 4000000 in
theorem lb_Ta_squares_Ta3_11 (o : Nat) (M : mv_M) (N : Nat) : ∀ (n : Nat) (σ : kS) (v1 : Int64) (v4 : Int32) (v5 : Int32), jb_Ta_squares_11 N n (wr_Ta o M σ) v1 (some (o + 4)) v4 v5 = (kb_Ta_squares_Ta3_11 N n σ v1 v4 v5).map (wq_Ta o M) := by
  intro n
  induction n with
  | zero => intros; rfl
  | succ n ih =>
    intro σ v1 v4 v5
    rw [jb_Ta_squares_11, kb_Ta_squares_Ta3_11]
    refine km_ite (fun _ => ?_) (fun _ => ?_)
    · rfl
    · rw [Option.bind_some]
      try rw [wl_Ta_3]
      refine km_bind (fun x21 => ?_)
      exact ih _ _ _ _
set_option maxHeartbeats 4000000 in
theorem lb_Ta_squares_Ta3_0 (o : Nat) (M : mv_M) (N : Nat)  (σ : kS) : jb_Ta_squares_0 N (wr_Ta o M σ) (some (o + 4)) = (kb_Ta_squares_Ta3_0 N σ).map (wq_Ta o M) := by
  unfold jb_Ta_squares_0 kb_Ta_squares_Ta3_0
  rw [Option.bind_some]
  first | rw [wn_Ta_3, Option.bind_some] | rw [Option.bind_some]
  exact lb_Ta_squares_Ta3_11 o M N N _ _ _ _
theorem lf_Ta_squares_Ta3 (o : Nat) (M : mv_M) (N : Nat) (σ : kS) : jf_Ta_squares N (wr_Ta o M σ) (some (o + 4)) = (kf_Ta_squares_Ta3 N σ).map (wq_Ta o M) := lb_Ta_squares_Ta3_0 o M N σ
/-! ===== java/util/Arrays.fill for Ja_fill0_Ta2 ===== -/
def kb_Ja_fill0_Ta2_5 (N : Nat) : Nat → kS → Int32 → Int32 → Int32 → Option (Unit × kS)
  | 0, _, _, _, _ => none
  | n + 1, σ, v1, v2, v3 =>
    if v3 ≤ v2 then (some ((), σ)) else
    mj_gd v2 4 <| kk_let (kA σ 2 v2.toNatClampNeg v1) fun s13 =>
    kb_Ja_fill0_Ta2_5 N n s13 v1 (v2 + 1) v3
def kb_Ja_fill0_Ta2_0 (N : Nat) (σ : kS) (v1 : Int32) : Option (Unit × kS) :=
  kb_Ja_fill0_Ta2_5 N N σ v1 0 4
def kf_Ja_fill0_Ta2 (N : Nat) (σ : kS) (v1 : Int32) : Option (Unit × kS) := kb_Ja_fill0_Ta2_0 N σ v1
set_option maxHeartbeats 4000000 in
theorem lb_Ja_fill0_Ta2_5 (o : Nat) (M : mv_M) (N : Nat) : ∀ (n : Nat) (σ : kS) (v1 : Int32) (v2 : Int32) (v3 : Int32), jb_Ja_fill0_5 N n (wr_Ta o M σ) (some (o + 3)) v1 v2 v3 = (kb_Ja_fill0_Ta2_5 N n σ v1 v2 v3).map (wq_Ta o M) := by
  intro n
  induction n with
  | zero => intros; rfl
  | succ n ih =>
    intro σ v1 v2 v3
    rw [jb_Ja_fill0_5, kb_Ja_fill0_Ta2_5]
    refine km_ite (fun _ => ?_) (fun _ => ?_)
    · rfl
    · rw [Option.bind_some]
      rw [wx_Ta_2]
      refine km_gd (fun _ => ?_)
      refine km_let ?_
      skip
      exact ih _ _ _ _
set_option maxHeartbeats 4000000 in
theorem lb_Ja_fill0_Ta2_0 (o : Nat) (M : mv_M) (N : Nat)  (σ : kS) (v1 : Int32) : jb_Ja_fill0_0 N (wr_Ta o M σ) (some (o + 3)) v1 = (kb_Ja_fill0_Ta2_0 N σ v1).map (wq_Ta o M) := by
  unfold jb_Ja_fill0_0 kb_Ja_fill0_Ta2_0
  rw [Option.bind_some]
  first | rw [wn_Ta_2, Option.bind_some] | rw [Option.bind_some]
  exact lb_Ja_fill0_Ta2_5 o M N N _ _ _ _
theorem lf_Ja_fill0_Ta2 (o : Nat) (M : mv_M) (N : Nat) (σ : kS) (v1 : Int32) : jf_Ja_fill0 N (wr_Ta o M σ) (some (o + 3)) v1 = (kf_Ja_fill0_Ta2 N σ v1).map (wq_Ta o M) := lb_Ja_fill0_Ta2_0 o M N σ v1
/-! ===== java/util/Arrays.fill for Ja_fill0_Ta3 ===== -/
def kb_Ja_fill0_Ta3_5 (N : Nat) : Nat → kS → Int32 → Int32 → Int32 → Option (Unit × kS)
  | 0, _, _, _, _ => none
  | n + 1, σ, v1, v2, v3 =>
    if v3 ≤ v2 then (some ((), σ)) else
    mj_gd v2 4 <| kk_let (kA σ 3 v2.toNatClampNeg v1) fun s13 =>
    kb_Ja_fill0_Ta3_5 N n s13 v1 (v2 + 1) v3
def kb_Ja_fill0_Ta3_0 (N : Nat) (σ : kS) (v1 : Int32) : Option (Unit × kS) :=
  kb_Ja_fill0_Ta3_5 N N σ v1 0 4
def kf_Ja_fill0_Ta3 (N : Nat) (σ : kS) (v1 : Int32) : Option (Unit × kS) := kb_Ja_fill0_Ta3_0 N σ v1
set_option maxHeartbeats 4000000 in
theorem lb_Ja_fill0_Ta3_5 (o : Nat) (M : mv_M) (N : Nat) : ∀ (n : Nat) (σ : kS) (v1 : Int32) (v2 : Int32) (v3 : Int32), jb_Ja_fill0_5 N n (wr_Ta o M σ) (some (o + 4)) v1 v2 v3 = (kb_Ja_fill0_Ta3_5 N n σ v1 v2 v3).map (wq_Ta o M) := by
  intro n
  induction n with
  | zero => intros; rfl
  | succ n ih =>
    intro σ v1 v2 v3
    rw [jb_Ja_fill0_5, kb_Ja_fill0_Ta3_5]
    refine km_ite (fun _ => ?_) (fun _ => ?_)
    · rfl
    · rw [Option.bind_some]
      rw [wx_Ta_3]
      refine km_gd (fun _ => ?_)
      refine km_let ?_
      skip
      exact ih _ _ _ _
set_option maxHeartbeats 4000000 in
theorem lb_Ja_fill0_Ta3_0 (o : Nat) (M : mv_M) (N : Nat)  (σ : kS) (v1 : Int32) : jb_Ja_fill0_0 N (wr_Ta o M σ) (some (o + 4)) v1 = (kb_Ja_fill0_Ta3_0 N σ v1).map (wq_Ta o M) := by
  unfold jb_Ja_fill0_0 kb_Ja_fill0_Ta3_0
  rw [Option.bind_some]
  first | rw [wn_Ta_3, Option.bind_some] | rw [Option.bind_some]
  exact lb_Ja_fill0_Ta3_5 o M N N _ _ _ _
theorem lf_Ja_fill0_Ta3 (o : Nat) (M : mv_M) (N : Nat) (σ : kS) (v1 : Int32) : jf_Ja_fill0 N (wr_Ta o M σ) (some (o + 4)) v1 = (kf_Ja_fill0_Ta3 N σ v1).map (wq_Ta o M) := lb_Ja_fill0_Ta3_0 o M N σ v1
/-! ===== PlainLearner$Table.costOf(II)J ===== -/
def kb_Ta_costOf_106 (N : Nat) (σ : kS) : Option (Int64 × kS) :=
  some (0, σ)
def kb_Ta_costOf_83 (N : Nat) (c21 : kS → Int32 → Int32 → Int32 → Int32 → Option (Int64 × kS)) (σ : kS) (v1 : Int32) (v2 : Int32) (v3 : Int32) (v4 : Int32) : Option (Int64 × kS) :=
  c21 σ v1 v2 v3 (v4 + 1)
def kb_Ta_costOf_21 (N : Nat) : Nat → kS → Int32 → Int32 → Int32 → Int32 → Option (Int64 × kS)
  | 0, _, _, _, _, _ => none
  | n + 1, σ, v1, v2, v3, v4 =>
    if (σ.1 4) ≤ v4 then (if v3 = 0 then (kb_Ta_costOf_106 N σ) else
    if ((σ.1 4) - v3) = 0 then (kb_Ta_costOf_106 N σ) else
    kk_call (kf_Ta_squares_Ta2 N σ ) fun r128 s128 =>
    kk_call (kf_Ta_squares_Ta3 N s128 ) fun r140 s140 =>
    Option.bind (kf_Fr_of N (((((σ.1 4).toInt64 * v3.toInt64) * ((σ.1 4) - v3).toInt64) - (r128 * ((σ.1 4) - v3).toInt64)) - (r140 * v3.toInt64)) (((σ.1 4).toInt64 * v3.toInt64) * ((σ.1 4) - v3).toInt64)) fun r149 =>
    some (r149, s140)) else
    Option.bind (mj_tab (σ.2.2.1 0) 160 ((v4 * 4) + v1)) fun x40 =>
    if v2 < x40 then (Option.bind (mj_tab (σ.2.2.1 1) 40 v4) fun x77 =>
    Option.bind (mj_tab (σ.2.2.1 3) 4 x77) fun x79 =>
    mj_gd x77 4 <| kk_let (kA σ 3 x77.toNatClampNeg (x79 + 1)) fun s82 =>
    kb_Ta_costOf_83 N (kb_Ta_costOf_21 N n) s82 v1 v2 v3 v4) else
    Option.bind (mj_tab (σ.2.2.1 1) 40 v4) fun x55 =>
    Option.bind (mj_tab (σ.2.2.1 2) 4 x55) fun x57 =>
    mj_gd x55 4 <| kk_let (kA σ 2 x55.toNatClampNeg (x57 + 1)) fun s60 =>
    kb_Ta_costOf_83 N (kb_Ta_costOf_21 N n) s60 v1 v2 (v3 + 1) v4
def kb_Ta_costOf_0 (N : Nat) (σ : kS) (v1 : Int32) (v2 : Int32) : Option (Int64 × kS) :=
  kk_call (kf_Ja_fill0_Ta2 N σ 0) fun r5 s5 =>
  kk_call (kf_Ja_fill0_Ta3 N s5 0) fun r13 s13 =>
  kb_Ta_costOf_21 N N s13 v1 v2 0 0
def kf_Ta_costOf (N : Nat) (σ : kS) (v1 : Int32) (v2 : Int32) : Option (Int64 × kS) := kb_Ta_costOf_0 N σ v1 v2
set_option maxHeartbeats 4000000 in
theorem lb_Ta_costOf_106 (o : Nat) (M : mv_M) (N : Nat)  (σ : kS) : jb_Ta_costOf_106 N (wr_Ta o M σ) = (kb_Ta_costOf_106 N σ).map (wq_Ta o M) := by
  unfold jb_Ta_costOf_106 kb_Ta_costOf_106
  rfl
set_option maxHeartbeats 4000000 in
theorem lb_Ta_costOf_83 (o : Nat) (M : mv_M) (N : Nat) (k21 : mv_M → Nat → Int32 → Int32 → Int32 → Int32 → Option (Int64 × mv_M)) (c21 : kS → Int32 → Int32 → Int32 → Int32 → Option (Int64 × kS)) (hc21 : ∀ (σ : kS) (v1 : Int32) (v2 : Int32) (v3 : Int32) (v4 : Int32), k21 (wr_Ta o M σ) o v1 v2 v3 v4 = (c21 σ v1 v2 v3 v4).map (wq_Ta o M))  (σ : kS) (v1 : Int32) (v2 : Int32) (v3 : Int32) (v4 : Int32) : jb_Ta_costOf_83 N k21 (wr_Ta o M σ) o v1 v2 v3 v4 = (kb_Ta_costOf_83 N c21 σ v1 v2 v3 v4).map (wq_Ta o M) := by
  unfold jb_Ta_costOf_83 kb_Ta_costOf_83
  exact hc21 _ _ _ _ _
set_option maxHeartbeats 4000000 in
theorem lb_Ta_costOf_21 (o : Nat) (M : mv_M) (N : Nat) : ∀ (n : Nat) (σ : kS) (v1 : Int32) (v2 : Int32) (v3 : Int32) (v4 : Int32), jb_Ta_costOf_21 N n (wr_Ta o M σ) o v1 v2 v3 v4 = (kb_Ta_costOf_21 N n σ v1 v2 v3 v4).map (wq_Ta o M) := by
  intro n
  induction n with
  | zero => intros; rfl
  | succ n ih =>
    intro σ v1 v2 v3 v4
    rw [jb_Ta_costOf_21, kb_Ta_costOf_21]
    first | rw [wg_Ta_4, Option.bind_some] | rw [Option.bind_some]
    refine km_ite (fun _ => ?_) (fun _ => ?_)
    · first | rw [wg_Ta_4, Option.bind_some] | rw [Option.bind_some]
      refine km_ite (fun _ => ?_) (fun _ => ?_)
      · exact lb_Ta_costOf_106 o M N _
      · refine km_ite (fun _ => ?_) (fun _ => ?_)
        · exact lb_Ta_costOf_106 o M N _
        · first | rw [wg_Ta_4, Option.bind_some] | rw [Option.bind_some]
          first | rw [wg_Ta_2, Option.bind_some] | rw [Option.bind_some]
          try rw [lf_Ta_squares_Ta2]
          refine km_call (fun r128 s128 => ?_)
          first | rw [wg_Ta_3, Option.bind_some] | rw [Option.bind_some]
          try rw [lf_Ta_squares_Ta3]
          refine km_call (fun r140 s140 => ?_)
          try rw [lf_Fr_of]
          refine km_callP (fun r149 => ?_)
          rfl
    · first | rw [wg_Ta_0, Option.bind_some] | rw [Option.bind_some]
      rw [Option.bind_some]
      try rw [wl_Ta_0]
      refine km_bind (fun x40 => ?_)
      refine km_ite (fun _ => ?_) (fun _ => ?_)
      · first | rw [wg_Ta_3, Option.bind_some] | rw [Option.bind_some]
        first | rw [wg_Ta_1, Option.bind_some] | rw [Option.bind_some]
        rw [Option.bind_some]
        try rw [wl_Ta_1]
        refine km_bind (fun x77 => ?_)
        rw [Option.bind_some]
        try rw [wl_Ta_3]
        refine km_bind (fun x79 => ?_)
        rw [wx_Ta_3]
        refine km_gd (fun _ => ?_)
        refine km_let ?_
        skip
        exact lb_Ta_costOf_83 o M N _ _ ih _ _ _ _ _
      · first | rw [wg_Ta_2, Option.bind_some] | rw [Option.bind_some]
        first | rw [wg_Ta_1, Option.bind_some] | rw [Option.bind_some]
        rw [Option.bind_some]
        try rw [wl_Ta_1]
        refine km_bind (fun x55 => ?_)
        rw [Option.bind_some]
        try rw [wl_Ta_2]
        refine km_bind (fun x57 => ?_)
        rw [wx_Ta_2]
        refine km_gd (fun _ => ?_)
        refine km_let ?_
        skip
        exact lb_Ta_costOf_83 o M N _ _ ih _ _ _ _ _
set_option maxHeartbeats 4000000 in
theorem lb_Ta_costOf_0 (o : Nat) (M : mv_M) (N : Nat)  (σ : kS) (v1 : Int32) (v2 : Int32) : jb_Ta_costOf_0 N (wr_Ta o M σ) o v1 v2 = (kb_Ta_costOf_0 N σ v1 v2).map (wq_Ta o M) := by
  unfold jb_Ta_costOf_0 kb_Ta_costOf_0
  first | rw [wg_Ta_2, Option.bind_some] | rw [Option.bind_some]
  try rw [lf_Ja_fill0_Ta2]
  refine km_call (fun r5 s5 => ?_)
  first | rw [wg_Ta_3, Option.bind_some] | rw [Option.bind_some]
  try rw [lf_Ja_fill0_Ta3]
  refine km_call (fun r13 s13 => ?_)
  exact lb_Ta_costOf_21 o M N N _ _ _ _ _
theorem lf_Ta_costOf (o : Nat) (M : mv_M) (N : Nat) (σ : kS) (v1 : Int32) (v2 : Int32) : jf_Ta_costOf N (wr_Ta o M σ) o v1 v2 = (kf_Ta_costOf N σ v1 v2).map (wq_Ta o M) := lb_Ta_costOf_0 o M N σ v1 v2
/-! ===== PlainLearner$Table.bestCutOf(I)I ===== -/
def kb_Ta_bestCutOf_75 (N : Nat) (c9 : kS → Int32 → Int32 → Int64 → Int32 → Option (Int32 × kS)) (σ : kS) (v1 : Int32) (v2 : Int32) (v3 : Int64) (v5 : Int32) : Option (Int32 × kS) :=
  c9 σ v1 v2 v3 (v5 + 1)
def kb_Ta_bestCutOf_69 (N : Nat) (c9 : kS → Int32 → Int32 → Int64 → Int32 → Option (Int32 × kS)) (σ : kS) (v1 : Int32) (v5 : Int32) (v6 : Int32) (v7 : Int64) : Option (Int32 × kS) :=
  kb_Ta_bestCutOf_75 N c9 σ v1 v6 v7 v5
def kb_Ta_bestCutOf_9 (N : Nat) : Nat → kS → Int32 → Int32 → Int64 → Int32 → Option (Int32 × kS)
  | 0, _, _, _, _, _ => none
  | n + 1, σ, v1, v2, v3, v5 =>
    if (σ.1 4) ≤ v5 then (some (v2, σ)) else
    Option.bind (mj_tab (σ.2.2.1 0) 160 ((v5 * 4) + v1)) fun x28 =>
    kk_call (kf_Ta_costOf N σ v1 x28) fun r35 s35 =>
    Option.bind (kf_Ta_isLess N r35 v3) fun r43 =>
    if r43 = 0 then (if (lg_cmp r35 0) = 0 then (kb_Ta_bestCutOf_75 N (kb_Ta_bestCutOf_9 N n) s35 v1 v2 v3 v5) else
    if (lg_cmp r35 v3) = 0 then (if v2 ≤ x28 then (kb_Ta_bestCutOf_75 N (kb_Ta_bestCutOf_9 N n) s35 v1 v2 v3 v5) else
    kb_Ta_bestCutOf_69 N (kb_Ta_bestCutOf_9 N n) s35 v1 v5 x28 r35) else
    kb_Ta_bestCutOf_75 N (kb_Ta_bestCutOf_9 N n) s35 v1 v2 v3 v5) else
    kb_Ta_bestCutOf_69 N (kb_Ta_bestCutOf_9 N n) s35 v1 v5 x28 r35
def kb_Ta_bestCutOf_0 (N : Nat) (σ : kS) (v1 : Int32) : Option (Int32 × kS) :=
  kb_Ta_bestCutOf_9 N N σ v1 10000 0 0
def kf_Ta_bestCutOf (N : Nat) (σ : kS) (v1 : Int32) : Option (Int32 × kS) := kb_Ta_bestCutOf_0 N σ v1
set_option maxHeartbeats 4000000 in
theorem lb_Ta_bestCutOf_75 (o : Nat) (M : mv_M) (N : Nat) (k9 : mv_M → Nat → Int32 → Int32 → Int64 → Int32 → Option (Int32 × mv_M)) (c9 : kS → Int32 → Int32 → Int64 → Int32 → Option (Int32 × kS)) (hc9 : ∀ (σ : kS) (v1 : Int32) (v2 : Int32) (v3 : Int64) (v5 : Int32), k9 (wr_Ta o M σ) o v1 v2 v3 v5 = (c9 σ v1 v2 v3 v5).map (wq_Ta o M))  (σ : kS) (v1 : Int32) (v2 : Int32) (v3 : Int64) (v5 : Int32) : jb_Ta_bestCutOf_75 N k9 (wr_Ta o M σ) o v1 v2 v3 v5 = (kb_Ta_bestCutOf_75 N c9 σ v1 v2 v3 v5).map (wq_Ta o M) := by
  unfold jb_Ta_bestCutOf_75 kb_Ta_bestCutOf_75
  exact hc9 _ _ _ _ _
set_option maxHeartbeats 4000000 in
theorem lb_Ta_bestCutOf_69 (o : Nat) (M : mv_M) (N : Nat) (k9 : mv_M → Nat → Int32 → Int32 → Int64 → Int32 → Option (Int32 × mv_M)) (c9 : kS → Int32 → Int32 → Int64 → Int32 → Option (Int32 × kS)) (hc9 : ∀ (σ : kS) (v1 : Int32) (v2 : Int32) (v3 : Int64) (v5 : Int32), k9 (wr_Ta o M σ) o v1 v2 v3 v5 = (c9 σ v1 v2 v3 v5).map (wq_Ta o M))  (σ : kS) (v1 : Int32) (v5 : Int32) (v6 : Int32) (v7 : Int64) : jb_Ta_bestCutOf_69 N k9 (wr_Ta o M σ) o v1 v5 v6 v7 = (kb_Ta_bestCutOf_69 N c9 σ v1 v5 v6 v7).map (wq_Ta o M) := by
  unfold jb_Ta_bestCutOf_69 kb_Ta_bestCutOf_69
  exact lb_Ta_bestCutOf_75 o M N _ _ hc9 _ _ _ _ _
set_option maxHeartbeats 4000000 in
theorem lb_Ta_bestCutOf_9 (o : Nat) (M : mv_M) (N : Nat) : ∀ (n : Nat) (σ : kS) (v1 : Int32) (v2 : Int32) (v3 : Int64) (v5 : Int32), jb_Ta_bestCutOf_9 N n (wr_Ta o M σ) o v1 v2 v3 v5 = (kb_Ta_bestCutOf_9 N n σ v1 v2 v3 v5).map (wq_Ta o M) := by
  intro n
  induction n with
  | zero => intros; rfl
  | succ n ih =>
    intro σ v1 v2 v3 v5
    rw [jb_Ta_bestCutOf_9, kb_Ta_bestCutOf_9]
    first | rw [wg_Ta_4, Option.bind_some] | rw [Option.bind_some]
    refine km_ite (fun _ => ?_) (fun _ => ?_)
    · rfl
    · first | rw [wg_Ta_0, Option.bind_some] | rw [Option.bind_some]
      rw [Option.bind_some]
      try rw [wl_Ta_0]
      refine km_bind (fun x28 => ?_)
      try rw [wo_Ta]
      try rw [lf_Ta_costOf]
      refine km_call (fun r35 s35 => ?_)
      try rw [lf_Ta_isLess]
      refine km_callP (fun r43 => ?_)
      refine km_ite (fun _ => ?_) (fun _ => ?_)
      · refine km_ite (fun _ => ?_) (fun _ => ?_)
        · exact lb_Ta_bestCutOf_75 o M N _ _ ih _ _ _ _ _
        · refine km_ite (fun _ => ?_) (fun _ => ?_)
          · refine km_ite (fun _ => ?_) (fun _ => ?_)
            · exact lb_Ta_bestCutOf_75 o M N _ _ ih _ _ _ _ _
            · exact lb_Ta_bestCutOf_69 o M N _ _ ih _ _ _ _ _
          · exact lb_Ta_bestCutOf_75 o M N _ _ ih _ _ _ _ _
      · exact lb_Ta_bestCutOf_69 o M N _ _ ih _ _ _ _ _
set_option maxHeartbeats 4000000 in
theorem lb_Ta_bestCutOf_0 (o : Nat) (M : mv_M) (N : Nat)  (σ : kS) (v1 : Int32) : jb_Ta_bestCutOf_0 N (wr_Ta o M σ) o v1 = (kb_Ta_bestCutOf_0 N σ v1).map (wq_Ta o M) := by
  unfold jb_Ta_bestCutOf_0 kb_Ta_bestCutOf_0
  exact lb_Ta_bestCutOf_9 o M N N _ _ _ _ _
theorem lf_Ta_bestCutOf (o : Nat) (M : mv_M) (N : Nat) (σ : kS) (v1 : Int32) : jf_Ta_bestCutOf N (wr_Ta o M σ) o v1 = (kf_Ta_bestCutOf N σ v1).map (wq_Ta o M) := lb_Ta_bestCutOf_0 o M N σ v1
/-! ===== PlainLearner$Table.bestColumn()I ===== -/
def kb_Ta_bestColumn_43 (N : Nat) (c8 : kS → Int32 → Int64 → Int32 → Option (Int32 × kS)) (σ : kS) (v1 : Int32) (v2 : Int64) (v4 : Int32) : Option (Int32 × kS) :=
  c8 σ v1 v2 (v4 + 1)
def kb_Ta_bestColumn_8 (N : Nat) : Nat → kS → Int32 → Int64 → Int32 → Option (Int32 × kS)
  | 0, _, _, _, _ => none
  | n + 1, σ, v1, v2, v4 =>
    if 4 ≤ v4 then (some (v1, σ)) else
    kk_call (kf_Ta_bestCutOf N σ v4) fun r20 s20 =>
    kk_call (kf_Ta_costOf N s20 v4 r20) fun r23 s23 =>
    Option.bind (kf_Ta_isLess N r23 v2) fun r31 =>
    if r31 = 0 then (kb_Ta_bestColumn_43 N (kb_Ta_bestColumn_8 N n) s23 v1 v2 v4) else
    kb_Ta_bestColumn_43 N (kb_Ta_bestColumn_8 N n) s23 v4 r23 v4
def kb_Ta_bestColumn_0 (N : Nat) (σ : kS) : Option (Int32 × kS) :=
  kb_Ta_bestColumn_8 N N σ (-2) 0 0
def kf_Ta_bestColumn (N : Nat) (σ : kS) : Option (Int32 × kS) := kb_Ta_bestColumn_0 N σ
set_option maxHeartbeats 4000000 in
theorem lb_Ta_bestColumn_43 (o : Nat) (M : mv_M) (N : Nat) (k8 : mv_M → Nat → Int32 → Int64 → Int32 → Option (Int32 × mv_M)) (c8 : kS → Int32 → Int64 → Int32 → Option (Int32 × kS)) (hc8 : ∀ (σ : kS) (v1 : Int32) (v2 : Int64) (v4 : Int32), k8 (wr_Ta o M σ) o v1 v2 v4 = (c8 σ v1 v2 v4).map (wq_Ta o M))  (σ : kS) (v1 : Int32) (v2 : Int64) (v4 : Int32) : jb_Ta_bestColumn_43 N k8 (wr_Ta o M σ) o v1 v2 v4 = (kb_Ta_bestColumn_43 N c8 σ v1 v2 v4).map (wq_Ta o M) := by
  unfold jb_Ta_bestColumn_43 kb_Ta_bestColumn_43
  exact hc8 _ _ _ _
set_option maxHeartbeats 4000000 in
theorem lb_Ta_bestColumn_8 (o : Nat) (M : mv_M) (N : Nat) : ∀ (n : Nat) (σ : kS) (v1 : Int32) (v2 : Int64) (v4 : Int32), jb_Ta_bestColumn_8 N n (wr_Ta o M σ) o v1 v2 v4 = (kb_Ta_bestColumn_8 N n σ v1 v2 v4).map (wq_Ta o M) := by
  intro n
  induction n with
  | zero => intros; rfl
  | succ n ih =>
    intro σ v1 v2 v4
    rw [jb_Ta_bestColumn_8, kb_Ta_bestColumn_8]
    refine km_ite (fun _ => ?_) (fun _ => ?_)
    · rfl
    · try rw [wo_Ta]
      try rw [lf_Ta_bestCutOf]
      refine km_call (fun r20 s20 => ?_)
      try rw [wo_Ta]
      try rw [lf_Ta_costOf]
      refine km_call (fun r23 s23 => ?_)
      try rw [lf_Ta_isLess]
      refine km_callP (fun r31 => ?_)
      refine km_ite (fun _ => ?_) (fun _ => ?_)
      · exact lb_Ta_bestColumn_43 o M N _ _ ih _ _ _ _
      · exact lb_Ta_bestColumn_43 o M N _ _ ih _ _ _ _
set_option maxHeartbeats 4000000 in
theorem lb_Ta_bestColumn_0 (o : Nat) (M : mv_M) (N : Nat)  (σ : kS) : jb_Ta_bestColumn_0 N (wr_Ta o M σ) o = (kb_Ta_bestColumn_0 N σ).map (wq_Ta o M) := by
  unfold jb_Ta_bestColumn_0 kb_Ta_bestColumn_0
  exact lb_Ta_bestColumn_8 o M N N _ _ _ _
theorem lf_Ta_bestColumn (o : Nat) (M : mv_M) (N : Nat) (σ : kS) : jf_Ta_bestColumn N (wr_Ta o M σ) o = (kf_Ta_bestColumn N σ).map (wq_Ta o M) := lb_Ta_bestColumn_0 o M N σ
/-! ===== PlainLearner$Table.dropAll()I ===== -/
def kb_Ta_dropAll_0 (N : Nat) (σ : kS) : Option (Int32 × kS) :=
  kk_let (kI σ 4 0) fun s7 =>
  some ((σ.1 4), s7)
def kf_Ta_dropAll (N : Nat) (σ : kS) : Option (Int32 × kS) := kb_Ta_dropAll_0 N σ
set_option maxHeartbeats 4000000 in
theorem lb_Ta_dropAll_0 (o : Nat) (M : mv_M) (N : Nat)  (σ : kS) : jb_Ta_dropAll_0 N (wr_Ta o M σ) o = (kb_Ta_dropAll_0 N σ).map (wq_Ta o M) := by
  unfold jb_Ta_dropAll_0 kb_Ta_dropAll_0
  first | rw [wg_Ta_4, Option.bind_some] | rw [Option.bind_some]
  rw [wp_Ta_4, Option.bind_some]
  refine km_let ?_
  rfl
theorem lf_Ta_dropAll (o : Nat) (M : mv_M) (N : Nat) (σ : kS) : jf_Ta_dropAll N (wr_Ta o M σ) o = (kf_Ta_dropAll N σ).map (wq_Ta o M) := lb_Ta_dropAll_0 o M N σ
/-! ===== java/util/Arrays.fill for Ja_fill0_Py0 ===== -/
def kb_Ja_fill0_Py0_5 (N : Nat) : Nat → kS → Int32 → Int32 → Int32 → Option (Unit × kS)
  | 0, _, _, _, _ => none
  | n + 1, σ, v1, v2, v3 =>
    if v3 ≤ v2 then (some ((), σ)) else
    mj_gd v2 256 <| kk_let (kA σ 0 v2.toNatClampNeg v1) fun s13 =>
    kb_Ja_fill0_Py0_5 N n s13 v1 (v2 + 1) v3
def kb_Ja_fill0_Py0_0 (N : Nat) (σ : kS) (v1 : Int32) : Option (Unit × kS) :=
  kb_Ja_fill0_Py0_5 N N σ v1 0 256
def kf_Ja_fill0_Py0 (N : Nat) (σ : kS) (v1 : Int32) : Option (Unit × kS) := kb_Ja_fill0_Py0_0 N σ v1
set_option maxHeartbeats 4000000 in
theorem lb_Ja_fill0_Py0_5 (o : Nat) (M : mv_M) (N : Nat) : ∀ (n : Nat) (σ : kS) (v1 : Int32) (v2 : Int32) (v3 : Int32), jb_Ja_fill0_5 N n (wr_Py o M σ) (some (o + 1)) v1 v2 v3 = (kb_Ja_fill0_Py0_5 N n σ v1 v2 v3).map (wq_Py o M) := by
  intro n
  induction n with
  | zero => intros; rfl
  | succ n ih =>
    intro σ v1 v2 v3
    rw [jb_Ja_fill0_5, kb_Ja_fill0_Py0_5]
    refine km_ite (fun _ => ?_) (fun _ => ?_)
    · rfl
    · rw [Option.bind_some]
      rw [wx_Py_0]
      refine km_gd (fun _ => ?_)
      refine km_let ?_
      skip
      exact ih _ _ _ _
set_option maxHeartbeats 4000000 in
theorem lb_Ja_fill0_Py0_0 (o : Nat) (M : mv_M) (N : Nat)  (σ : kS) (v1 : Int32) : jb_Ja_fill0_0 N (wr_Py o M σ) (some (o + 1)) v1 = (kb_Ja_fill0_Py0_0 N σ v1).map (wq_Py o M) := by
  unfold jb_Ja_fill0_0 kb_Ja_fill0_Py0_0
  rw [Option.bind_some]
  first | rw [wn_Py_0, Option.bind_some] | rw [Option.bind_some]
  exact lb_Ja_fill0_Py0_5 o M N N _ _ _ _
theorem lf_Ja_fill0_Py0 (o : Nat) (M : mv_M) (N : Nat) (σ : kS) (v1 : Int32) : jf_Ja_fill0 N (wr_Py o M σ) (some (o + 1)) v1 = (kf_Ja_fill0_Py0 N σ v1).map (wq_Py o M) := lb_Ja_fill0_Py0_0 o M N σ v1
/-! ===== PlainLearner$Players.begin(I)I ===== -/
def kb_Py_begin_10 (N : Nat) (σ : kS) : Option (Int32 × kS) :=
  some ((-1), σ)
def kb_Py_begin_0 (N : Nat) (σ : kS) (v1 : Int32) : Option (Int32 × kS) :=
  if v1 < 0 then (kb_Py_begin_10 N σ) else
  if v1 ≤ 8 then (kk_let (kI σ 1 v1) fun s14 =>
  kk_call (kf_Ja_fill0_Py0 N s14 0) fun r22 s22 =>
  some (0, s22)) else
  kb_Py_begin_10 N σ
def kf_Py_begin (N : Nat) (σ : kS) (v1 : Int32) : Option (Int32 × kS) := kb_Py_begin_0 N σ v1
set_option maxHeartbeats 4000000 in
theorem lb_Py_begin_10 (o : Nat) (M : mv_M) (N : Nat)  (σ : kS) : jb_Py_begin_10 N (wr_Py o M σ) = (kb_Py_begin_10 N σ).map (wq_Py o M) := by
  unfold jb_Py_begin_10 kb_Py_begin_10
  rfl
set_option maxHeartbeats 4000000 in
theorem lb_Py_begin_0 (o : Nat) (M : mv_M) (N : Nat)  (σ : kS) (v1 : Int32) : jb_Py_begin_0 N (wr_Py o M σ) o v1 = (kb_Py_begin_0 N σ v1).map (wq_Py o M) := by
  unfold jb_Py_begin_0 kb_Py_begin_0
  refine km_ite (fun _ => ?_) (fun _ => ?_)
  · exact lb_Py_begin_10 o M N _
  · refine km_ite (fun _ => ?_) (fun _ => ?_)
    · rw [wp_Py_1, Option.bind_some]
      refine km_let ?_
      first | rw [wg_Py_0, Option.bind_some] | rw [Option.bind_some]
      try rw [lf_Ja_fill0_Py0]
      refine km_call (fun r22 s22 => ?_)
      rfl
    · exact lb_Py_begin_10 o M N _
theorem lf_Py_begin (o : Nat) (M : mv_M) (N : Nat) (σ : kS) (v1 : Int32) : jf_Py_begin N (wr_Py o M σ) o v1 = (kf_Py_begin N σ v1).map (wq_Py o M) := lb_Py_begin_0 o M N σ v1
/-! ===== PlainLearner$Players.setWorth(II)I ===== -/
def kb_Py_setWorth_29 (N : Nat) (σ : kS) : Option (Int32 × kS) :=
  some ((-1), σ)
def kb_Py_setWorth_0 (N : Nat) (σ : kS) (v1 : Int32) (v2 : Int32) : Option (Int32 × kS) :=
  if v1 < 1 then (kb_Py_setWorth_29 N σ) else
  if ((1 : Int32) <<< ((σ.1 1) &&& 31)) ≤ v1 then (kb_Py_setWorth_29 N σ) else
  if v2 < (-10000) then (kb_Py_setWorth_29 N σ) else
  if v2 ≤ 10000 then (Option.bind (mj_tab (σ.2.2.1 0) 256 v1) fun x36 =>
  mj_gd v1 256 <| kk_let (kA σ 0 v1.toNatClampNeg v2) fun s44 =>
  some (x36, s44)) else
  kb_Py_setWorth_29 N σ
def kf_Py_setWorth (N : Nat) (σ : kS) (v1 : Int32) (v2 : Int32) : Option (Int32 × kS) := kb_Py_setWorth_0 N σ v1 v2
set_option maxHeartbeats 4000000 in
theorem lb_Py_setWorth_29 (o : Nat) (M : mv_M) (N : Nat)  (σ : kS) : jb_Py_setWorth_29 N (wr_Py o M σ) = (kb_Py_setWorth_29 N σ).map (wq_Py o M) := by
  unfold jb_Py_setWorth_29 kb_Py_setWorth_29
  rfl
set_option maxHeartbeats 4000000 in
theorem lb_Py_setWorth_0 (o : Nat) (M : mv_M) (N : Nat)  (σ : kS) (v1 : Int32) (v2 : Int32) : jb_Py_setWorth_0 N (wr_Py o M σ) o v1 v2 = (kb_Py_setWorth_0 N σ v1 v2).map (wq_Py o M) := by
  unfold jb_Py_setWorth_0 kb_Py_setWorth_0
  refine km_ite (fun _ => ?_) (fun _ => ?_)
  · exact lb_Py_setWorth_29 o M N _
  · first | rw [wg_Py_1, Option.bind_some] | rw [Option.bind_some]
    refine km_ite (fun _ => ?_) (fun _ => ?_)
    · exact lb_Py_setWorth_29 o M N _
    · refine km_ite (fun _ => ?_) (fun _ => ?_)
      · exact lb_Py_setWorth_29 o M N _
      · refine km_ite (fun _ => ?_) (fun _ => ?_)
        · first | rw [wg_Py_0, Option.bind_some] | rw [Option.bind_some]
          rw [Option.bind_some]
          try rw [wl_Py_0]
          refine km_bind (fun x36 => ?_)
          first | rw [wg_Py_0, Option.bind_some] | rw [Option.bind_some]
          rw [Option.bind_some]
          rw [wx_Py_0]
          refine km_gd (fun _ => ?_)
          refine km_let ?_
          skip
          rfl
        · exact lb_Py_setWorth_29 o M N _
theorem lf_Py_setWorth (o : Nat) (M : mv_M) (N : Nat) (σ : kS) (v1 : Int32) (v2 : Int32) : jf_Py_setWorth N (wr_Py o M σ) o v1 v2 = (kf_Py_setWorth N σ v1 v2).map (wq_Py o M) := lb_Py_setWorth_0 o M N σ v1 v2
/-! ===== PlainLearner$Players.shareOf(I)J ===== -/
def kb_Py_shareOf_82 (N : Nat) (c9 : kS → Int32 → Int64 → Int32 → Option (Int64 × kS)) (σ : kS) (v2 : Int32) (v3 : Int64) (v5 : Int32) : Option (Int64 × kS) :=
  c9 σ v2 v3 (v5 + 1)
def kb_Py_shareOf_9 (N : Nat) : Nat → kS → Int32 → Int64 → Int32 → Option (Int64 × kS)
  | 0, _, _, _, _ => none
  | n + 1, σ, v2, v3, v5 =>
    if ((1 : Int32) <<< ((σ.1 1) &&& 31)) ≤ v5 then (Option.bind (mj_tab sf_0 9 (σ.1 1)) fun x96 =>
    Option.bind (kf_Fr_of N v3 x96.toInt64) fun r98 =>
    some (r98, σ)) else
    if (v5 &&& v2) = 0 then (Option.bind (kf_Ji_bitCount N v5) fun r29 =>
    Option.bind (mj_tab sf_0 9 r29) fun x39 =>
    Option.bind (mj_tab sf_0 9 (((σ.1 1) - 1) - r29)) fun x53 =>
    Option.bind (mj_tab (σ.2.2.1 0) 256 (v5 ||| v2)) fun x69 =>
    Option.bind (mj_tab (σ.2.2.1 0) 256 v5) fun x76 =>
    kb_Py_shareOf_82 N (kb_Py_shareOf_9 N n) σ v2 (v3 + ((x39.toInt64 * x53.toInt64) * (x69 - x76).toInt64)) v5) else
    kb_Py_shareOf_82 N (kb_Py_shareOf_9 N n) σ v2 v3 v5
def kb_Py_shareOf_0 (N : Nat) (σ : kS) (v1 : Int32) : Option (Int64 × kS) :=
  kb_Py_shareOf_9 N N σ ((1 : Int32) <<< (v1 &&& 31)) 0 0
def kf_Py_shareOf (N : Nat) (σ : kS) (v1 : Int32) : Option (Int64 × kS) := kb_Py_shareOf_0 N σ v1
set_option maxHeartbeats 4000000 in
theorem lb_Py_shareOf_82 (o : Nat) (M : mv_M) (N : Nat) (k9 : mv_M → Nat → Int32 → Int64 → Int32 → Option (Int64 × mv_M)) (c9 : kS → Int32 → Int64 → Int32 → Option (Int64 × kS)) (hc9 : ∀ (σ : kS) (v2 : Int32) (v3 : Int64) (v5 : Int32), k9 (wr_Py o M σ) o v2 v3 v5 = (c9 σ v2 v3 v5).map (wq_Py o M))  (σ : kS) (v2 : Int32) (v3 : Int64) (v5 : Int32) : jb_Py_shareOf_82 N k9 (wr_Py o M σ) o v2 v3 v5 = (kb_Py_shareOf_82 N c9 σ v2 v3 v5).map (wq_Py o M) := by
  unfold jb_Py_shareOf_82 kb_Py_shareOf_82
  exact hc9 _ _ _ _
set_option maxHeartbeats 4000000 in
theorem lb_Py_shareOf_9 (o : Nat) (M : mv_M) (N : Nat) : ∀ (n : Nat) (σ : kS) (v2 : Int32) (v3 : Int64) (v5 : Int32), jb_Py_shareOf_9 N n (wr_Py o M σ) o v2 v3 v5 = (kb_Py_shareOf_9 N n σ v2 v3 v5).map (wq_Py o M) := by
  intro n
  induction n with
  | zero => intros; rfl
  | succ n ih =>
    intro σ v2 v3 v5
    rw [jb_Py_shareOf_9, kb_Py_shareOf_9]
    first | rw [wg_Py_1, Option.bind_some] | rw [Option.bind_some]
    refine km_ite (fun _ => ?_) (fun _ => ?_)
    · first | rw [wg_Py_1, Option.bind_some] | rw [Option.bind_some]
      refine km_bind (fun x96 => ?_)
      try rw [lf_Fr_of]
      refine km_callP (fun r98 => ?_)
      rfl
    · refine km_ite (fun _ => ?_) (fun _ => ?_)
      · try rw [lf_Ji_bitCount]
        refine km_callP (fun r29 => ?_)
        refine km_bind (fun x39 => ?_)
        first | rw [wg_Py_1, Option.bind_some] | rw [Option.bind_some]
        refine km_bind (fun x53 => ?_)
        first | rw [wg_Py_0, Option.bind_some] | rw [Option.bind_some]
        rw [Option.bind_some]
        try rw [wl_Py_0]
        refine km_bind (fun x69 => ?_)
        first | rw [wg_Py_0, Option.bind_some] | rw [Option.bind_some]
        rw [Option.bind_some]
        try rw [wl_Py_0]
        refine km_bind (fun x76 => ?_)
        exact lb_Py_shareOf_82 o M N _ _ ih _ _ _ _
      · exact lb_Py_shareOf_82 o M N _ _ ih _ _ _ _
set_option maxHeartbeats 4000000 in
theorem lb_Py_shareOf_0 (o : Nat) (M : mv_M) (N : Nat)  (σ : kS) (v1 : Int32) : jb_Py_shareOf_0 N (wr_Py o M σ) o v1 = (kb_Py_shareOf_0 N σ v1).map (wq_Py o M) := by
  unfold jb_Py_shareOf_0 kb_Py_shareOf_0
  exact lb_Py_shareOf_9 o M N N _ _ _ _
theorem lf_Py_shareOf (o : Nat) (M : mv_M) (N : Nat) (σ : kS) (v1 : Int32) : jf_Py_shareOf N (wr_Py o M σ) o v1 = (kf_Py_shareOf N σ v1).map (wq_Py o M) := lb_Py_shareOf_0 o M N σ v1
/-! ===== PlainLearner$Scores.addPair(IZ)I ===== -/
def kb_Sc_addPair_0 (N : Nat) (σ : kS) (v1 : Int32) (v2 : Int32) : Option (Int32 × kS) :=
  if (σ.1 2) < 40 then (mj_gd (σ.1 2) 40 <| kk_let (kA σ 0 (σ.1 2).toNatClampNeg v1) fun s21 =>
  mj_gd (s21.1 2) 40 <| kk_let (kA s21 1 (s21.1 2).toNatClampNeg (vp_nar .boolean v2)) fun s31 =>
  kk_let (kI s31 2 ((s31.1 2) + 1)) fun s39 =>
  some ((s39.1 2), s39)) else
  some ((-3), σ)
def kf_Sc_addPair (N : Nat) (σ : kS) (v1 : Int32) (v2 : Int32) : Option (Int32 × kS) := kb_Sc_addPair_0 N σ v1 v2
set_option maxHeartbeats 4000000 in
theorem lb_Sc_addPair_0 (o : Nat) (M : mv_M) (N : Nat)  (σ : kS) (v1 : Int32) (v2 : Int32) : jb_Sc_addPair_0 N (wr_Sc o M σ) o v1 v2 = (kb_Sc_addPair_0 N σ v1 v2).map (wq_Sc o M) := by
  unfold jb_Sc_addPair_0 kb_Sc_addPair_0
  first | rw [wg_Sc_2, Option.bind_some] | rw [Option.bind_some]
  refine km_ite (fun _ => ?_) (fun _ => ?_)
  · first | rw [wg_Sc_0, Option.bind_some] | rw [Option.bind_some]
    first | rw [wg_Sc_2, Option.bind_some] | rw [Option.bind_some]
    rw [Option.bind_some]
    rw [wx_Sc_0]
    refine km_gd (fun _ => ?_)
    refine km_let ?_
    first | rw [wg_Sc_1, Option.bind_some] | rw [Option.bind_some]
    first | rw [wg_Sc_2, Option.bind_some] | rw [Option.bind_some]
    rw [Option.bind_some]
    rw [wx_Sc_1]
    refine km_gd (fun _ => ?_)
    refine km_let ?_
    first | rw [wg_Sc_2, Option.bind_some] | rw [Option.bind_some]
    rw [wp_Sc_2, Option.bind_some]
    refine km_let ?_
    first | rw [wg_Sc_2, Option.bind_some] | rw [Option.bind_some]
    rfl
  · rfl
theorem lf_Sc_addPair (o : Nat) (M : mv_M) (N : Nat) (σ : kS) (v1 : Int32) (v2 : Int32) : jf_Sc_addPair N (wr_Sc o M σ) o v1 v2 = (kf_Sc_addPair N σ v1 v2).map (wq_Sc o M) := lb_Sc_addPair_0 o M N σ v1 v2
/-! ===== PlainLearner$Scores.countYes()I ===== -/
def kb_Sc_countYes_24 (N : Nat) (c4 : kS → Int32 → Int32 → Option (Int32 × kS)) (σ : kS) (v1 : Int32) (v2 : Int32) : Option (Int32 × kS) :=
  c4 σ v1 (v2 + 1)
def kb_Sc_countYes_4 (N : Nat) : Nat → kS → Int32 → Int32 → Option (Int32 × kS)
  | 0, _, _, _ => none
  | n + 1, σ, v1, v2 =>
    if (σ.1 2) ≤ v2 then (some (v1, σ)) else
    Option.bind (mj_tab (σ.2.2.1 1) 40 v2) fun x17 =>
    if x17 = 0 then (kb_Sc_countYes_24 N (kb_Sc_countYes_4 N n) σ v1 v2) else
    kb_Sc_countYes_24 N (kb_Sc_countYes_4 N n) σ (v1 + 1) v2
def kb_Sc_countYes_0 (N : Nat) (σ : kS) : Option (Int32 × kS) :=
  kb_Sc_countYes_4 N N σ 0 0
def kf_Sc_countYes (N : Nat) (σ : kS) : Option (Int32 × kS) := kb_Sc_countYes_0 N σ
set_option maxHeartbeats 4000000 in
theorem lb_Sc_countYes_24 (o : Nat) (M : mv_M) (N : Nat) (k4 : mv_M → Nat → Int32 → Int32 → Option (Int32 × mv_M)) (c4 : kS → Int32 → Int32 → Option (Int32 × kS)) (hc4 : ∀ (σ : kS) (v1 : Int32) (v2 : Int32), k4 (wr_Sc o M σ) o v1 v2 = (c4 σ v1 v2).map (wq_Sc o M))  (σ : kS) (v1 : Int32) (v2 : Int32) : jb_Sc_countYes_24 N k4 (wr_Sc o M σ) o v1 v2 = (kb_Sc_countYes_24 N c4 σ v1 v2).map (wq_Sc o M) := by
  unfold jb_Sc_countYes_24 kb_Sc_countYes_24
  exact hc4 _ _ _
set_option maxHeartbeats 4000000 in
theorem lb_Sc_countYes_4 (o : Nat) (M : mv_M) (N : Nat) : ∀ (n : Nat) (σ : kS) (v1 : Int32) (v2 : Int32), jb_Sc_countYes_4 N n (wr_Sc o M σ) o v1 v2 = (kb_Sc_countYes_4 N n σ v1 v2).map (wq_Sc o M) := by
  intro n
  induction n with
  | zero => intros; rfl
  | succ n ih =>
    intro σ v1 v2
    rw [jb_Sc_countYes_4, kb_Sc_countYes_4]
    first | rw [wg_Sc_2, Option.bind_some] | rw [Option.bind_some]
    refine km_ite (fun _ => ?_) (fun _ => ?_)
    · rfl
    · first | rw [wg_Sc_1, Option.bind_some] | rw [Option.bind_some]
      rw [Option.bind_some]
      try rw [wl_Sc_1]
      refine km_bind (fun x17 => ?_)
      refine km_ite (fun _ => ?_) (fun _ => ?_)
      · exact lb_Sc_countYes_24 o M N _ _ ih _ _ _
      · exact lb_Sc_countYes_24 o M N _ _ ih _ _ _
set_option maxHeartbeats 4000000 in
theorem lb_Sc_countYes_0 (o : Nat) (M : mv_M) (N : Nat)  (σ : kS) : jb_Sc_countYes_0 N (wr_Sc o M σ) o = (kb_Sc_countYes_0 N σ).map (wq_Sc o M) := by
  unfold jb_Sc_countYes_0 kb_Sc_countYes_0
  exact lb_Sc_countYes_4 o M N N _ _ _
theorem lf_Sc_countYes (o : Nat) (M : mv_M) (N : Nat) (σ : kS) : jf_Sc_countYes N (wr_Sc o M σ) o = (kf_Sc_countYes N σ).map (wq_Sc o M) := lb_Sc_countYes_0 o M N σ
/-! ===== PlainLearner$Scores.shareInOrder()J ===== -/
def kb_Sc_shareInOrder_82 (N : Nat) (c4 : kS → Int32 → Int32 → Option (Int64 × kS)) (c14 : kS → Int32 → Int32 → Int32 → Option (Int64 × kS)) (σ : kS) (v1 : Int32) (v2 : Int32) (v3 : Int32) : Option (Int64 × kS) :=
  c14 σ v1 v2 (v3 + 1)
def kb_Sc_shareInOrder_80 (N : Nat) (c4 : kS → Int32 → Int32 → Option (Int64 × kS)) (c14 : kS → Int32 → Int32 → Int32 → Option (Int64 × kS)) (σ : kS) (v2 : Int32) (v3 : Int32) (s0 : Int32) (s1 : Int32) : Option (Int64 × kS) :=
  kb_Sc_shareInOrder_82 N c4 c14 σ (s0 + s1) v2 v3
def kb_Sc_shareInOrder_14 (N : Nat) (c4 : kS → Int32 → Int32 → Option (Int64 × kS)) : Nat → kS → Int32 → Int32 → Int32 → Option (Int64 × kS)
  | 0, _, _, _, _ => none
  | n + 1, σ, v1, v2, v3 =>
    if (σ.1 2) ≤ v3 then (c4 σ v1 (v2 + 1)) else
    Option.bind (mj_tab (σ.2.2.1 1) 40 v2) fun x27 =>
    if x27 = 0 then (kb_Sc_shareInOrder_82 N c4 (kb_Sc_shareInOrder_14 N c4 n) σ v1 v2 v3) else
    Option.bind (mj_tab (σ.2.2.1 1) 40 v3) fun x36 =>
    if x36 = 0 then (Option.bind (mj_tab (σ.2.2.1 0) 40 v2) fun x46 =>
    Option.bind (mj_tab (σ.2.2.1 0) 40 v3) fun x52 =>
    if x46 ≤ x52 then (Option.bind (mj_tab (σ.2.2.1 0) 40 v2) fun x65 =>
    Option.bind (mj_tab (σ.2.2.1 0) 40 v3) fun x71 =>
    if x65 = x71 then (kb_Sc_shareInOrder_80 N c4 (kb_Sc_shareInOrder_14 N c4 n) σ v2 v3 v1 1) else
    kb_Sc_shareInOrder_80 N c4 (kb_Sc_shareInOrder_14 N c4 n) σ v2 v3 v1 0) else
    kb_Sc_shareInOrder_80 N c4 (kb_Sc_shareInOrder_14 N c4 n) σ v2 v3 v1 2) else
    kb_Sc_shareInOrder_82 N c4 (kb_Sc_shareInOrder_14 N c4 n) σ v1 v2 v3
def kb_Sc_shareInOrder_4 (N : Nat) : Nat → kS → Int32 → Int32 → Option (Int64 × kS)
  | 0, _, _, _ => none
  | n + 1, σ, v1, v2 =>
    if (σ.1 2) ≤ v2 then (kk_call (kf_Sc_countYes N σ ) fun r95 s95 =>
    Option.bind (kf_Fr_of N v1.toInt64 ((2 * r95.toInt64) * ((s95.1 2) - r95).toInt64)) fun r115 =>
    some (r115, s95)) else
    kb_Sc_shareInOrder_14 N (kb_Sc_shareInOrder_4 N n) N σ v1 v2 0
def kb_Sc_shareInOrder_0 (N : Nat) (σ : kS) : Option (Int64 × kS) :=
  kb_Sc_shareInOrder_4 N N σ 0 0
def kf_Sc_shareInOrder (N : Nat) (σ : kS) : Option (Int64 × kS) := kb_Sc_shareInOrder_0 N σ
set_option maxHeartbeats 4000000 in
theorem lb_Sc_shareInOrder_82 (o : Nat) (M : mv_M) (N : Nat) (k4 : mv_M → Nat → Int32 → Int32 → Option (Int64 × mv_M)) (c4 : kS → Int32 → Int32 → Option (Int64 × kS)) (k14 : mv_M → Nat → Int32 → Int32 → Int32 → Option (Int64 × mv_M)) (c14 : kS → Int32 → Int32 → Int32 → Option (Int64 × kS)) (hc4 : ∀ (σ : kS) (v1 : Int32) (v2 : Int32), k4 (wr_Sc o M σ) o v1 v2 = (c4 σ v1 v2).map (wq_Sc o M)) (hc14 : ∀ (σ : kS) (v1 : Int32) (v2 : Int32) (v3 : Int32), k14 (wr_Sc o M σ) o v1 v2 v3 = (c14 σ v1 v2 v3).map (wq_Sc o M))  (σ : kS) (v1 : Int32) (v2 : Int32) (v3 : Int32) : jb_Sc_shareInOrder_82 N k4 k14 (wr_Sc o M σ) o v1 v2 v3 = (kb_Sc_shareInOrder_82 N c4 c14 σ v1 v2 v3).map (wq_Sc o M) := by
  unfold jb_Sc_shareInOrder_82 kb_Sc_shareInOrder_82
  exact hc14 _ _ _ _
set_option maxHeartbeats 4000000 in
theorem lb_Sc_shareInOrder_80 (o : Nat) (M : mv_M) (N : Nat) (k4 : mv_M → Nat → Int32 → Int32 → Option (Int64 × mv_M)) (c4 : kS → Int32 → Int32 → Option (Int64 × kS)) (k14 : mv_M → Nat → Int32 → Int32 → Int32 → Option (Int64 × mv_M)) (c14 : kS → Int32 → Int32 → Int32 → Option (Int64 × kS)) (hc4 : ∀ (σ : kS) (v1 : Int32) (v2 : Int32), k4 (wr_Sc o M σ) o v1 v2 = (c4 σ v1 v2).map (wq_Sc o M)) (hc14 : ∀ (σ : kS) (v1 : Int32) (v2 : Int32) (v3 : Int32), k14 (wr_Sc o M σ) o v1 v2 v3 = (c14 σ v1 v2 v3).map (wq_Sc o M))  (σ : kS) (v2 : Int32) (v3 : Int32) (s0 : Int32) (s1 : Int32) : jb_Sc_shareInOrder_80 N k4 k14 (wr_Sc o M σ) o v2 v3 s0 s1 = (kb_Sc_shareInOrder_80 N c4 c14 σ v2 v3 s0 s1).map (wq_Sc o M) := by
  unfold jb_Sc_shareInOrder_80 kb_Sc_shareInOrder_80
  exact lb_Sc_shareInOrder_82 o M N _ _ _ _ hc4 hc14 _ _ _ _
set_option maxHeartbeats 4000000 in
theorem lb_Sc_shareInOrder_14 (o : Nat) (M : mv_M) (N : Nat) (k4 : mv_M → Nat → Int32 → Int32 → Option (Int64 × mv_M)) (c4 : kS → Int32 → Int32 → Option (Int64 × kS)) (hc4 : ∀ (σ : kS) (v1 : Int32) (v2 : Int32), k4 (wr_Sc o M σ) o v1 v2 = (c4 σ v1 v2).map (wq_Sc o M)) : ∀ (n : Nat) (σ : kS) (v1 : Int32) (v2 : Int32) (v3 : Int32), jb_Sc_shareInOrder_14 N k4 n (wr_Sc o M σ) o v1 v2 v3 = (kb_Sc_shareInOrder_14 N c4 n σ v1 v2 v3).map (wq_Sc o M) := by
  intro n
  induction n with
  | zero => intros; rfl
  | succ n ih =>
    intro σ v1 v2 v3
    rw [jb_Sc_shareInOrder_14, kb_Sc_shareInOrder_14]
    first | rw [wg_Sc_2, Option.bind_some] | rw [Option.bind_some]
    refine km_ite (fun _ => ?_) (fun _ => ?_)
    · exact hc4 _ _ _
    · first | rw [wg_Sc_1, Option.bind_some] | rw [Option.bind_some]
      rw [Option.bind_some]
      try rw [wl_Sc_1]
      refine km_bind (fun x27 => ?_)
      refine km_ite (fun _ => ?_) (fun _ => ?_)
      · exact lb_Sc_shareInOrder_82 o M N _ _ _ _ hc4 ih _ _ _ _
      · first | rw [wg_Sc_1, Option.bind_some] | rw [Option.bind_some]
        rw [Option.bind_some]
        try rw [wl_Sc_1]
        refine km_bind (fun x36 => ?_)
        refine km_ite (fun _ => ?_) (fun _ => ?_)
        · first | rw [wg_Sc_0, Option.bind_some] | rw [Option.bind_some]
          rw [Option.bind_some]
          try rw [wl_Sc_0]
          refine km_bind (fun x46 => ?_)
          first | rw [wg_Sc_0, Option.bind_some] | rw [Option.bind_some]
          rw [Option.bind_some]
          try rw [wl_Sc_0]
          refine km_bind (fun x52 => ?_)
          refine km_ite (fun _ => ?_) (fun _ => ?_)
          · first | rw [wg_Sc_0, Option.bind_some] | rw [Option.bind_some]
            rw [Option.bind_some]
            try rw [wl_Sc_0]
            refine km_bind (fun x65 => ?_)
            first | rw [wg_Sc_0, Option.bind_some] | rw [Option.bind_some]
            rw [Option.bind_some]
            try rw [wl_Sc_0]
            refine km_bind (fun x71 => ?_)
            refine km_ite (fun _ => ?_) (fun _ => ?_)
            · exact lb_Sc_shareInOrder_80 o M N _ _ _ _ hc4 ih _ _ _ _ _
            · exact lb_Sc_shareInOrder_80 o M N _ _ _ _ hc4 ih _ _ _ _ _
          · exact lb_Sc_shareInOrder_80 o M N _ _ _ _ hc4 ih _ _ _ _ _
        · exact lb_Sc_shareInOrder_82 o M N _ _ _ _ hc4 ih _ _ _ _
set_option maxHeartbeats 4000000 in
theorem lb_Sc_shareInOrder_4 (o : Nat) (M : mv_M) (N : Nat) : ∀ (n : Nat) (σ : kS) (v1 : Int32) (v2 : Int32), jb_Sc_shareInOrder_4 N n (wr_Sc o M σ) o v1 v2 = (kb_Sc_shareInOrder_4 N n σ v1 v2).map (wq_Sc o M) := by
  intro n
  induction n with
  | zero => intros; rfl
  | succ n ih =>
    intro σ v1 v2
    rw [jb_Sc_shareInOrder_4, kb_Sc_shareInOrder_4]
    first | rw [wg_Sc_2, Option.bind_some] | rw [Option.bind_some]
    refine km_ite (fun _ => ?_) (fun _ => ?_)
    · try rw [wo_Sc]
      try rw [lf_Sc_countYes]
      refine km_call (fun r95 s95 => ?_)
      first | rw [wg_Sc_2, Option.bind_some] | rw [Option.bind_some]
      try rw [lf_Fr_of]
      refine km_callP (fun r115 => ?_)
      rfl
    · exact lb_Sc_shareInOrder_14 o M N _ _ ih N _ _ _ _
set_option maxHeartbeats 4000000 in
theorem lb_Sc_shareInOrder_0 (o : Nat) (M : mv_M) (N : Nat)  (σ : kS) : jb_Sc_shareInOrder_0 N (wr_Sc o M σ) o = (kb_Sc_shareInOrder_0 N σ).map (wq_Sc o M) := by
  unfold jb_Sc_shareInOrder_0 kb_Sc_shareInOrder_0
  exact lb_Sc_shareInOrder_4 o M N N _ _ _
theorem lf_Sc_shareInOrder (o : Nat) (M : mv_M) (N : Nat) (σ : kS) : jf_Sc_shareInOrder N (wr_Sc o M σ) o = (kf_Sc_shareInOrder N σ).map (wq_Sc o M) := lb_Sc_shareInOrder_0 o M N σ
