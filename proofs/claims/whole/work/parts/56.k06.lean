/-! ===== PlainLearner$Scores.countRight(I)I ===== -/
def kb_Sc_countRight_39 (N : Nat) (c4 : kS → Int32 → Int32 → Int32 → Option (Int32 × kS)) (σ : kS) (v1 : Int32) (v2 : Int32) (v3 : Int32) : Option (Int32 × kS) :=
  c4 σ v1 v2 (v3 + 1)
def kb_Sc_countRight_27 (N : Nat) (c4 : kS → Int32 → Int32 → Int32 → Option (Int32 × kS)) (σ : kS) (v1 : Int32) (v2 : Int32) (v3 : Int32) (s0 : Int32) : Option (Int32 × kS) :=
  Option.bind (mj_tab (σ.2.2.1 1) 40 v3) fun x32 =>
  if s0 = x32 then (kb_Sc_countRight_39 N c4 σ v1 (v2 + 1) v3) else
  kb_Sc_countRight_39 N c4 σ v1 v2 v3
def kb_Sc_countRight_4 (N : Nat) : Nat → kS → Int32 → Int32 → Int32 → Option (Int32 × kS)
  | 0, _, _, _, _ => none
  | n + 1, σ, v1, v2, v3 =>
    if (σ.1 2) ≤ v3 then (some (v2, σ)) else
    Option.bind (mj_tab (σ.2.2.1 0) 40 v3) fun x17 =>
    if x17 < v1 then (kb_Sc_countRight_27 N (kb_Sc_countRight_4 N n) σ v1 v2 v3 0) else
    kb_Sc_countRight_27 N (kb_Sc_countRight_4 N n) σ v1 v2 v3 1
def kb_Sc_countRight_0 (N : Nat) (σ : kS) (v1 : Int32) : Option (Int32 × kS) :=
  kb_Sc_countRight_4 N N σ v1 0 0
def kf_Sc_countRight (N : Nat) (σ : kS) (v1 : Int32) : Option (Int32 × kS) := kb_Sc_countRight_0 N σ v1
set_option maxHeartbeats 4000000 in
theorem lb_Sc_countRight_39 (o : Nat) (M : mv_M) (N : Nat) (k4 : mv_M → Nat → Int32 → Int32 → Int32 → Option (Int32 × mv_M)) (c4 : kS → Int32 → Int32 → Int32 → Option (Int32 × kS)) (hc4 : ∀ (σ : kS) (v1 : Int32) (v2 : Int32) (v3 : Int32), k4 (wr_Sc o M σ) o v1 v2 v3 = (c4 σ v1 v2 v3).map (wq_Sc o M))  (σ : kS) (v1 : Int32) (v2 : Int32) (v3 : Int32) : jb_Sc_countRight_39 N k4 (wr_Sc o M σ) o v1 v2 v3 = (kb_Sc_countRight_39 N c4 σ v1 v2 v3).map (wq_Sc o M) := by
  unfold jb_Sc_countRight_39 kb_Sc_countRight_39
  exact hc4 _ _ _ _
set_option maxHeartbeats 4000000 in
theorem lb_Sc_countRight_27 (o : Nat) (M : mv_M) (N : Nat) (k4 : mv_M → Nat → Int32 → Int32 → Int32 → Option (Int32 × mv_M)) (c4 : kS → Int32 → Int32 → Int32 → Option (Int32 × kS)) (hc4 : ∀ (σ : kS) (v1 : Int32) (v2 : Int32) (v3 : Int32), k4 (wr_Sc o M σ) o v1 v2 v3 = (c4 σ v1 v2 v3).map (wq_Sc o M))  (σ : kS) (v1 : Int32) (v2 : Int32) (v3 : Int32) (s0 : Int32) : jb_Sc_countRight_27 N k4 (wr_Sc o M σ) o v1 v2 v3 s0 = (kb_Sc_countRight_27 N c4 σ v1 v2 v3 s0).map (wq_Sc o M) := by
  unfold jb_Sc_countRight_27 kb_Sc_countRight_27
  first | rw [wg_Sc_1, Option.bind_some] | rw [Option.bind_some]
  rw [Option.bind_some]
  try rw [wl_Sc_1]
  refine km_bind (fun x32 => ?_)
  refine km_ite (fun _ => ?_) (fun _ => ?_)
  · exact lb_Sc_countRight_39 o M N _ _ hc4 _ _ _ _
  · exact lb_Sc_countRight_39 o M N _ _ hc4 _ _ _ _
set_option maxHeartbeats 4000000 in
theorem lb_Sc_countRight_4 (o : Nat) (M : mv_M) (N : Nat) : ∀ (n : Nat) (σ : kS) (v1 : Int32) (v2 : Int32) (v3 : Int32), jb_Sc_countRight_4 N n (wr_Sc o M σ) o v1 v2 v3 = (kb_Sc_countRight_4 N n σ v1 v2 v3).map (wq_Sc o M) := by
  intro n
  induction n with
  | zero => intros; rfl
  | succ n ih =>
    intro σ v1 v2 v3
    rw [jb_Sc_countRight_4, kb_Sc_countRight_4]
    first | rw [wg_Sc_2, Option.bind_some] | rw [Option.bind_some]
    refine km_ite (fun _ => ?_) (fun _ => ?_)
    · rfl
    · first | rw [wg_Sc_0, Option.bind_some] | rw [Option.bind_some]
      rw [Option.bind_some]
      try rw [wl_Sc_0]
      refine km_bind (fun x17 => ?_)
      refine km_ite (fun _ => ?_) (fun _ => ?_)
      · exact lb_Sc_countRight_27 o M N _ _ ih _ _ _ _ _
      · exact lb_Sc_countRight_27 o M N _ _ ih _ _ _ _ _
set_option maxHeartbeats 4000000 in
theorem lb_Sc_countRight_0 (o : Nat) (M : mv_M) (N : Nat)  (σ : kS) (v1 : Int32) : jb_Sc_countRight_0 N (wr_Sc o M σ) o v1 = (kb_Sc_countRight_0 N σ v1).map (wq_Sc o M) := by
  unfold jb_Sc_countRight_0 kb_Sc_countRight_0
  exact lb_Sc_countRight_4 o M N N _ _ _ _
theorem lf_Sc_countRight (o : Nat) (M : mv_M) (N : Nat) (σ : kS) (v1 : Int32) : jf_Sc_countRight N (wr_Sc o M σ) o v1 = (kf_Sc_countRight N σ v1).map (wq_Sc o M) := lb_Sc_countRight_0 o M N σ v1
/-! ===== PlainLearner$Scores.greatestShareRight()J ===== -/
def kb_Sc_greatestShareRight_12 (N : Nat) : Nat → kS → Int32 → Int32 → Option (Int64 × kS)
  | 0, _, _, _ => none
  | n + 1, σ, v1, v2 =>
    if (σ.1 2) ≤ v2 then (Option.bind (kf_Fr_of N v1.toInt64 ((σ.1 2).toInt64)) fun r48 =>
    some (r48, σ)) else
    Option.bind (mj_tab (σ.2.2.1 0) 40 v2) fun x27 =>
    kk_call (kf_Sc_countRight N σ x27) fun r28 s28 =>
    Option.bind (kf_Jm_max N v1 r28) fun r31 =>
    kb_Sc_greatestShareRight_12 N n s28 r31 (v2 + 1)
def kb_Sc_greatestShareRight_0 (N : Nat) (σ : kS) : Option (Int64 × kS) :=
  kk_call (kf_Sc_countYes N σ ) fun r5 s5 =>
  kb_Sc_greatestShareRight_12 N N s5 ((σ.1 2) - r5) 0
def kf_Sc_greatestShareRight (N : Nat) (σ : kS) : Option (Int64 × kS) := kb_Sc_greatestShareRight_0 N σ
set_option maxHeartbeats 4000000 in
theorem lb_Sc_greatestShareRight_12 (o : Nat) (M : mv_M) (N : Nat) : ∀ (n : Nat) (σ : kS) (v1 : Int32) (v2 : Int32), jb_Sc_greatestShareRight_12 N n (wr_Sc o M σ) o v1 v2 = (kb_Sc_greatestShareRight_12 N n σ v1 v2).map (wq_Sc o M) := by
  intro n
  induction n with
  | zero => intros; rfl
  | succ n ih =>
    intro σ v1 v2
    rw [jb_Sc_greatestShareRight_12, kb_Sc_greatestShareRight_12]
    first | rw [wg_Sc_2, Option.bind_some] | rw [Option.bind_some]
    refine km_ite (fun _ => ?_) (fun _ => ?_)
    · first | rw [wg_Sc_2, Option.bind_some] | rw [Option.bind_some]
      try rw [lf_Fr_of]
      refine km_callP (fun r48 => ?_)
      rfl
    · first | rw [wg_Sc_0, Option.bind_some] | rw [Option.bind_some]
      rw [Option.bind_some]
      try rw [wl_Sc_0]
      refine km_bind (fun x27 => ?_)
      try rw [wo_Sc]
      try rw [lf_Sc_countRight]
      refine km_call (fun r28 s28 => ?_)
      try rw [lf_Jm_max]
      refine km_callP (fun r31 => ?_)
      exact ih _ _ _
set_option maxHeartbeats 4000000 in
theorem lb_Sc_greatestShareRight_0 (o : Nat) (M : mv_M) (N : Nat)  (σ : kS) : jb_Sc_greatestShareRight_0 N (wr_Sc o M σ) o = (kb_Sc_greatestShareRight_0 N σ).map (wq_Sc o M) := by
  unfold jb_Sc_greatestShareRight_0 kb_Sc_greatestShareRight_0
  first | rw [wg_Sc_2, Option.bind_some] | rw [Option.bind_some]
  try rw [wo_Sc]
  try rw [lf_Sc_countYes]
  refine km_call (fun r5 s5 => ?_)
  exact lb_Sc_greatestShareRight_12 o M N N _ _ _
theorem lf_Sc_greatestShareRight (o : Nat) (M : mv_M) (N : Nat) (σ : kS) : jf_Sc_greatestShareRight N (wr_Sc o M σ) o = (kf_Sc_greatestShareRight N σ).map (wq_Sc o M) := lb_Sc_greatestShareRight_0 o M N σ
/-! ===== PlainLearner$Scores.countYesToldYes(I)I ===== -/
def kb_Sc_countYesToldYes_34 (N : Nat) (c4 : kS → Int32 → Int32 → Int32 → Option (Int32 × kS)) (σ : kS) (v1 : Int32) (v2 : Int32) (v3 : Int32) : Option (Int32 × kS) :=
  c4 σ v1 v2 (v3 + 1)
def kb_Sc_countYesToldYes_4 (N : Nat) : Nat → kS → Int32 → Int32 → Int32 → Option (Int32 × kS)
  | 0, _, _, _, _ => none
  | n + 1, σ, v1, v2, v3 =>
    if (σ.1 2) ≤ v3 then (some (v2, σ)) else
    Option.bind (mj_tab (σ.2.2.1 1) 40 v3) fun x17 =>
    if x17 = 0 then (kb_Sc_countYesToldYes_34 N (kb_Sc_countYesToldYes_4 N n) σ v1 v2 v3) else
    Option.bind (mj_tab (σ.2.2.1 0) 40 v3) fun x26 =>
    if x26 < v1 then (kb_Sc_countYesToldYes_34 N (kb_Sc_countYesToldYes_4 N n) σ v1 v2 v3) else
    kb_Sc_countYesToldYes_34 N (kb_Sc_countYesToldYes_4 N n) σ v1 (v2 + 1) v3
def kb_Sc_countYesToldYes_0 (N : Nat) (σ : kS) (v1 : Int32) : Option (Int32 × kS) :=
  kb_Sc_countYesToldYes_4 N N σ v1 0 0
def kf_Sc_countYesToldYes (N : Nat) (σ : kS) (v1 : Int32) : Option (Int32 × kS) := kb_Sc_countYesToldYes_0 N σ v1
set_option maxHeartbeats 4000000 in
theorem lb_Sc_countYesToldYes_34 (o : Nat) (M : mv_M) (N : Nat) (k4 : mv_M → Nat → Int32 → Int32 → Int32 → Option (Int32 × mv_M)) (c4 : kS → Int32 → Int32 → Int32 → Option (Int32 × kS)) (hc4 : ∀ (σ : kS) (v1 : Int32) (v2 : Int32) (v3 : Int32), k4 (wr_Sc o M σ) o v1 v2 v3 = (c4 σ v1 v2 v3).map (wq_Sc o M))  (σ : kS) (v1 : Int32) (v2 : Int32) (v3 : Int32) : jb_Sc_countYesToldYes_34 N k4 (wr_Sc o M σ) o v1 v2 v3 = (kb_Sc_countYesToldYes_34 N c4 σ v1 v2 v3).map (wq_Sc o M) := by
  unfold jb_Sc_countYesToldYes_34 kb_Sc_countYesToldYes_34
  exact hc4 _ _ _ _
set_option maxHeartbeats 4000000 in
theorem lb_Sc_countYesToldYes_4 (o : Nat) (M : mv_M) (N : Nat) : ∀ (n : Nat) (σ : kS) (v1 : Int32) (v2 : Int32) (v3 : Int32), jb_Sc_countYesToldYes_4 N n (wr_Sc o M σ) o v1 v2 v3 = (kb_Sc_countYesToldYes_4 N n σ v1 v2 v3).map (wq_Sc o M) := by
  intro n
  induction n with
  | zero => intros; rfl
  | succ n ih =>
    intro σ v1 v2 v3
    rw [jb_Sc_countYesToldYes_4, kb_Sc_countYesToldYes_4]
    first | rw [wg_Sc_2, Option.bind_some] | rw [Option.bind_some]
    refine km_ite (fun _ => ?_) (fun _ => ?_)
    · rfl
    · first | rw [wg_Sc_1, Option.bind_some] | rw [Option.bind_some]
      rw [Option.bind_some]
      try rw [wl_Sc_1]
      refine km_bind (fun x17 => ?_)
      refine km_ite (fun _ => ?_) (fun _ => ?_)
      · exact lb_Sc_countYesToldYes_34 o M N _ _ ih _ _ _ _
      · first | rw [wg_Sc_0, Option.bind_some] | rw [Option.bind_some]
        rw [Option.bind_some]
        try rw [wl_Sc_0]
        refine km_bind (fun x26 => ?_)
        refine km_ite (fun _ => ?_) (fun _ => ?_)
        · exact lb_Sc_countYesToldYes_34 o M N _ _ ih _ _ _ _
        · exact lb_Sc_countYesToldYes_34 o M N _ _ ih _ _ _ _
set_option maxHeartbeats 4000000 in
theorem lb_Sc_countYesToldYes_0 (o : Nat) (M : mv_M) (N : Nat)  (σ : kS) (v1 : Int32) : jb_Sc_countYesToldYes_0 N (wr_Sc o M σ) o v1 = (kb_Sc_countYesToldYes_0 N σ v1).map (wq_Sc o M) := by
  unfold jb_Sc_countYesToldYes_0 kb_Sc_countYesToldYes_0
  exact lb_Sc_countYesToldYes_4 o M N N _ _ _ _
theorem lf_Sc_countYesToldYes (o : Nat) (M : mv_M) (N : Nat) (σ : kS) (v1 : Int32) : jf_Sc_countYesToldYes N (wr_Sc o M σ) o v1 = (kf_Sc_countYesToldYes N σ v1).map (wq_Sc o M) := lb_Sc_countYesToldYes_0 o M N σ v1
/-! ===== PlainLearner$Scores.greatestBalance()J ===== -/
def kb_Sc_greatestBalance_78 (N : Nat) (c4 : kS → Int64 → Int32 → Option (Int64 × kS)) (σ : kS) (v1 : Int64) (v3 : Int32) : Option (Int64 × kS) :=
  c4 σ v1 (v3 + 1)
def kb_Sc_greatestBalance_64 (N : Nat) (c4 : kS → Int64 → Int32 → Option (Int64 × kS)) (σ : kS) (v1 : Int64) (v3 : Int32) (s0 : Int64) : Option (Int64 × kS) :=
  Option.bind (kf_Fr_compare N s0 v1) fun r69 =>
  if r69 ≤ 0 then (kb_Sc_greatestBalance_78 N c4 σ v1 v3) else
  kb_Sc_greatestBalance_78 N c4 σ s0 v3
def kb_Sc_greatestBalance_4 (N : Nat) : Nat → kS → Int64 → Int32 → Option (Int64 × kS)
  | 0, _, _, _ => none
  | n + 1, σ, v1, v3 =>
    if (σ.1 2) ≤ v3 then (some (v1, σ)) else
    Option.bind (mj_tab (σ.2.2.1 0) 40 v3) fun x19 =>
    kk_call (kf_Sc_countYesToldYes N σ x19) fun r20 s20 =>
    Option.bind (mj_tab (s20.2.2.1 0) 40 v3) fun x36 =>
    kk_call (kf_Sc_countRight N s20 x36) fun r37 s37 =>
    if (2 * r20) = 0 then (kb_Sc_greatestBalance_64 N (kb_Sc_greatestBalance_4 N n) s37 v1 v3 1) else
    Option.bind (kf_Fr_of N ((2 * r20).toInt64) (((2 * r20) + ((s20.1 2) - r37)).toInt64)) fun r61 =>
    kb_Sc_greatestBalance_64 N (kb_Sc_greatestBalance_4 N n) s37 v1 v3 r61
def kb_Sc_greatestBalance_0 (N : Nat) (σ : kS) : Option (Int64 × kS) :=
  kb_Sc_greatestBalance_4 N N σ 1 0
def kf_Sc_greatestBalance (N : Nat) (σ : kS) : Option (Int64 × kS) := kb_Sc_greatestBalance_0 N σ
set_option maxHeartbeats 4000000 in
theorem lb_Sc_greatestBalance_78 (o : Nat) (M : mv_M) (N : Nat) (k4 : mv_M → Nat → Int64 → Int32 → Option (Int64 × mv_M)) (c4 : kS → Int64 → Int32 → Option (Int64 × kS)) (hc4 : ∀ (σ : kS) (v1 : Int64) (v3 : Int32), k4 (wr_Sc o M σ) o v1 v3 = (c4 σ v1 v3).map (wq_Sc o M))  (σ : kS) (v1 : Int64) (v3 : Int32) : jb_Sc_greatestBalance_78 N k4 (wr_Sc o M σ) o v1 v3 = (kb_Sc_greatestBalance_78 N c4 σ v1 v3).map (wq_Sc o M) := by
  unfold jb_Sc_greatestBalance_78 kb_Sc_greatestBalance_78
  exact hc4 _ _ _
set_option maxHeartbeats 4000000 in
theorem lb_Sc_greatestBalance_64 (o : Nat) (M : mv_M) (N : Nat) (k4 : mv_M → Nat → Int64 → Int32 → Option (Int64 × mv_M)) (c4 : kS → Int64 → Int32 → Option (Int64 × kS)) (hc4 : ∀ (σ : kS) (v1 : Int64) (v3 : Int32), k4 (wr_Sc o M σ) o v1 v3 = (c4 σ v1 v3).map (wq_Sc o M))  (σ : kS) (v1 : Int64) (v3 : Int32) (s0 : Int64) : jb_Sc_greatestBalance_64 N k4 (wr_Sc o M σ) o v1 v3 s0 = (kb_Sc_greatestBalance_64 N c4 σ v1 v3 s0).map (wq_Sc o M) := by
  unfold jb_Sc_greatestBalance_64 kb_Sc_greatestBalance_64
  try rw [lf_Fr_compare]
  refine km_callP (fun r69 => ?_)
  refine km_ite (fun _ => ?_) (fun _ => ?_)
  · exact lb_Sc_greatestBalance_78 o M N _ _ hc4 _ _ _
  · exact lb_Sc_greatestBalance_78 o M N _ _ hc4 _ _ _
set_option maxHeartbeats 4000000 in
theorem lb_Sc_greatestBalance_4 (o : Nat) (M : mv_M) (N : Nat) : ∀ (n : Nat) (σ : kS) (v1 : Int64) (v3 : Int32), jb_Sc_greatestBalance_4 N n (wr_Sc o M σ) o v1 v3 = (kb_Sc_greatestBalance_4 N n σ v1 v3).map (wq_Sc o M) := by
  intro n
  induction n with
  | zero => intros; rfl
  | succ n ih =>
    intro σ v1 v3
    rw [jb_Sc_greatestBalance_4, kb_Sc_greatestBalance_4]
    first | rw [wg_Sc_2, Option.bind_some] | rw [Option.bind_some]
    refine km_ite (fun _ => ?_) (fun _ => ?_)
    · rfl
    · first | rw [wg_Sc_0, Option.bind_some] | rw [Option.bind_some]
      rw [Option.bind_some]
      try rw [wl_Sc_0]
      refine km_bind (fun x19 => ?_)
      try rw [wo_Sc]
      try rw [lf_Sc_countYesToldYes]
      refine km_call (fun r20 s20 => ?_)
      first | rw [wg_Sc_2, Option.bind_some] | rw [Option.bind_some]
      first | rw [wg_Sc_0, Option.bind_some] | rw [Option.bind_some]
      rw [Option.bind_some]
      try rw [wl_Sc_0]
      refine km_bind (fun x36 => ?_)
      try rw [wo_Sc]
      try rw [lf_Sc_countRight]
      refine km_call (fun r37 s37 => ?_)
      refine km_ite (fun _ => ?_) (fun _ => ?_)
      · exact lb_Sc_greatestBalance_64 o M N _ _ ih _ _ _ _
      · try rw [lf_Fr_of]
        refine km_callP (fun r61 => ?_)
        exact lb_Sc_greatestBalance_64 o M N _ _ ih _ _ _ _
set_option maxHeartbeats 4000000 in
theorem lb_Sc_greatestBalance_0 (o : Nat) (M : mv_M) (N : Nat)  (σ : kS) : jb_Sc_greatestBalance_0 N (wr_Sc o M σ) o = (kb_Sc_greatestBalance_0 N σ).map (wq_Sc o M) := by
  unfold jb_Sc_greatestBalance_0 kb_Sc_greatestBalance_0
  exact lb_Sc_greatestBalance_4 o M N N _ _ _
theorem lf_Sc_greatestBalance (o : Nat) (M : mv_M) (N : Nat) (σ : kS) : jf_Sc_greatestBalance N (wr_Sc o M σ) o = (kf_Sc_greatestBalance N σ).map (wq_Sc o M) := lb_Sc_greatestBalance_0 o M N σ
/-! ===== PlainLearner$Scores.countNotBelow(I)I ===== -/
def kb_Sc_countNotBelow_25 (N : Nat) (c4 : kS → Int32 → Int32 → Int32 → Option (Int32 × kS)) (σ : kS) (v1 : Int32) (v2 : Int32) (v3 : Int32) : Option (Int32 × kS) :=
  c4 σ v1 v2 (v3 + 1)
def kb_Sc_countNotBelow_4 (N : Nat) : Nat → kS → Int32 → Int32 → Int32 → Option (Int32 × kS)
  | 0, _, _, _, _ => none
  | n + 1, σ, v1, v2, v3 =>
    if (σ.1 2) ≤ v3 then (some (v2, σ)) else
    Option.bind (mj_tab (σ.2.2.1 0) 40 v3) fun x17 =>
    if x17 < v1 then (kb_Sc_countNotBelow_25 N (kb_Sc_countNotBelow_4 N n) σ v1 v2 v3) else
    kb_Sc_countNotBelow_25 N (kb_Sc_countNotBelow_4 N n) σ v1 (v2 + 1) v3
def kb_Sc_countNotBelow_0 (N : Nat) (σ : kS) (v1 : Int32) : Option (Int32 × kS) :=
  kb_Sc_countNotBelow_4 N N σ v1 0 0
def kf_Sc_countNotBelow (N : Nat) (σ : kS) (v1 : Int32) : Option (Int32 × kS) := kb_Sc_countNotBelow_0 N σ v1
set_option maxHeartbeats 4000000 in
theorem lb_Sc_countNotBelow_25 (o : Nat) (M : mv_M) (N : Nat) (k4 : mv_M → Nat → Int32 → Int32 → Int32 → Option (Int32 × mv_M)) (c4 : kS → Int32 → Int32 → Int32 → Option (Int32 × kS)) (hc4 : ∀ (σ : kS) (v1 : Int32) (v2 : Int32) (v3 : Int32), k4 (wr_Sc o M σ) o v1 v2 v3 = (c4 σ v1 v2 v3).map (wq_Sc o M))  (σ : kS) (v1 : Int32) (v2 : Int32) (v3 : Int32) : jb_Sc_countNotBelow_25 N k4 (wr_Sc o M σ) o v1 v2 v3 = (kb_Sc_countNotBelow_25 N c4 σ v1 v2 v3).map (wq_Sc o M) := by
  unfold jb_Sc_countNotBelow_25 kb_Sc_countNotBelow_25
  exact hc4 _ _ _ _
set_option maxHeartbeats 4000000 in
theorem lb_Sc_countNotBelow_4 (o : Nat) (M : mv_M) (N : Nat) : ∀ (n : Nat) (σ : kS) (v1 : Int32) (v2 : Int32) (v3 : Int32), jb_Sc_countNotBelow_4 N n (wr_Sc o M σ) o v1 v2 v3 = (kb_Sc_countNotBelow_4 N n σ v1 v2 v3).map (wq_Sc o M) := by
  intro n
  induction n with
  | zero => intros; rfl
  | succ n ih =>
    intro σ v1 v2 v3
    rw [jb_Sc_countNotBelow_4, kb_Sc_countNotBelow_4]
    first | rw [wg_Sc_2, Option.bind_some] | rw [Option.bind_some]
    refine km_ite (fun _ => ?_) (fun _ => ?_)
    · rfl
    · first | rw [wg_Sc_0, Option.bind_some] | rw [Option.bind_some]
      rw [Option.bind_some]
      try rw [wl_Sc_0]
      refine km_bind (fun x17 => ?_)
      refine km_ite (fun _ => ?_) (fun _ => ?_)
      · exact lb_Sc_countNotBelow_25 o M N _ _ ih _ _ _ _
      · exact lb_Sc_countNotBelow_25 o M N _ _ ih _ _ _ _
set_option maxHeartbeats 4000000 in
theorem lb_Sc_countNotBelow_0 (o : Nat) (M : mv_M) (N : Nat)  (σ : kS) (v1 : Int32) : jb_Sc_countNotBelow_0 N (wr_Sc o M σ) o v1 = (kb_Sc_countNotBelow_0 N σ v1).map (wq_Sc o M) := by
  unfold jb_Sc_countNotBelow_0 kb_Sc_countNotBelow_0
  exact lb_Sc_countNotBelow_4 o M N N _ _ _ _
theorem lf_Sc_countNotBelow (o : Nat) (M : mv_M) (N : Nat) (σ : kS) (v1 : Int32) : jf_Sc_countNotBelow N (wr_Sc o M σ) o v1 = (kf_Sc_countNotBelow N σ v1).map (wq_Sc o M) := lb_Sc_countNotBelow_0 o M N σ v1
/-! ===== PlainLearner$Scores.meanOfPlaces()J ===== -/
def kb_Sc_meanOfPlaces_41 (N : Nat) (c4 : kS → Int64 → Int32 → Option (Int64 × kS)) (σ : kS) (v1 : Int64) (v3 : Int32) : Option (Int64 × kS) :=
  c4 σ v1 (v3 + 1)
def kb_Sc_meanOfPlaces_4 (N : Nat) : Nat → kS → Int64 → Int32 → Option (Int64 × kS)
  | 0, _, _, _ => none
  | n + 1, σ, v1, v3 =>
    if (σ.1 2) ≤ v3 then (kk_call (kf_Sc_countYes N σ ) fun r49 s49 =>
    Option.bind (kf_Fr_whole N r49) fun r52 =>
    Option.bind (kf_Fr_inverse N r52) fun r55 =>
    Option.bind (kf_Fr_times N v1 r55) fun r58 =>
    some (r58, s49)) else
    Option.bind (mj_tab (σ.2.2.1 1) 40 v3) fun x17 =>
    if x17 = 0 then (kb_Sc_meanOfPlaces_41 N (kb_Sc_meanOfPlaces_4 N n) σ v1 v3) else
    Option.bind (mj_tab (σ.2.2.1 0) 40 v3) fun x29 =>
    kk_call (kf_Sc_countNotBelow N σ x29) fun r30 s30 =>
    Option.bind (kf_Fr_of N 1 r30.toInt64) fun r34 =>
    Option.bind (kf_Fr_add N v1 r34) fun r37 =>
    kb_Sc_meanOfPlaces_41 N (kb_Sc_meanOfPlaces_4 N n) s30 r37 v3
def kb_Sc_meanOfPlaces_0 (N : Nat) (σ : kS) : Option (Int64 × kS) :=
  kb_Sc_meanOfPlaces_4 N N σ 1 0
def kf_Sc_meanOfPlaces (N : Nat) (σ : kS) : Option (Int64 × kS) := kb_Sc_meanOfPlaces_0 N σ
set_option maxHeartbeats 4000000 in
theorem lb_Sc_meanOfPlaces_41 (o : Nat) (M : mv_M) (N : Nat) (k4 : mv_M → Nat → Int64 → Int32 → Option (Int64 × mv_M)) (c4 : kS → Int64 → Int32 → Option (Int64 × kS)) (hc4 : ∀ (σ : kS) (v1 : Int64) (v3 : Int32), k4 (wr_Sc o M σ) o v1 v3 = (c4 σ v1 v3).map (wq_Sc o M))  (σ : kS) (v1 : Int64) (v3 : Int32) : jb_Sc_meanOfPlaces_41 N k4 (wr_Sc o M σ) o v1 v3 = (kb_Sc_meanOfPlaces_41 N c4 σ v1 v3).map (wq_Sc o M) := by
  unfold jb_Sc_meanOfPlaces_41 kb_Sc_meanOfPlaces_41
  exact hc4 _ _ _
set_option maxHeartbeats 4000000 in
theorem lb_Sc_meanOfPlaces_4 (o : Nat) (M : mv_M) (N : Nat) : ∀ (n : Nat) (σ : kS) (v1 : Int64) (v3 : Int32), jb_Sc_meanOfPlaces_4 N n (wr_Sc o M σ) o v1 v3 = (kb_Sc_meanOfPlaces_4 N n σ v1 v3).map (wq_Sc o M) := by
  intro n
  induction n with
  | zero => intros; rfl
  | succ n ih =>
    intro σ v1 v3
    rw [jb_Sc_meanOfPlaces_4, kb_Sc_meanOfPlaces_4]
    first | rw [wg_Sc_2, Option.bind_some] | rw [Option.bind_some]
    refine km_ite (fun _ => ?_) (fun _ => ?_)
    · try rw [wo_Sc]
      try rw [lf_Sc_countYes]
      refine km_call (fun r49 s49 => ?_)
      try rw [lf_Fr_whole]
      refine km_callP (fun r52 => ?_)
      try rw [lf_Fr_inverse]
      refine km_callP (fun r55 => ?_)
      try rw [lf_Fr_times]
      refine km_callP (fun r58 => ?_)
      rfl
    · first | rw [wg_Sc_1, Option.bind_some] | rw [Option.bind_some]
      rw [Option.bind_some]
      try rw [wl_Sc_1]
      refine km_bind (fun x17 => ?_)
      refine km_ite (fun _ => ?_) (fun _ => ?_)
      · exact lb_Sc_meanOfPlaces_41 o M N _ _ ih _ _ _
      · first | rw [wg_Sc_0, Option.bind_some] | rw [Option.bind_some]
        rw [Option.bind_some]
        try rw [wl_Sc_0]
        refine km_bind (fun x29 => ?_)
        try rw [wo_Sc]
        try rw [lf_Sc_countNotBelow]
        refine km_call (fun r30 s30 => ?_)
        try rw [lf_Fr_of]
        refine km_callP (fun r34 => ?_)
        try rw [lf_Fr_add]
        refine km_callP (fun r37 => ?_)
        exact lb_Sc_meanOfPlaces_41 o M N _ _ ih _ _ _
set_option maxHeartbeats 4000000 in
theorem lb_Sc_meanOfPlaces_0 (o : Nat) (M : mv_M) (N : Nat)  (σ : kS) : jb_Sc_meanOfPlaces_0 N (wr_Sc o M σ) o = (kb_Sc_meanOfPlaces_0 N σ).map (wq_Sc o M) := by
  unfold jb_Sc_meanOfPlaces_0 kb_Sc_meanOfPlaces_0
  exact lb_Sc_meanOfPlaces_4 o M N N _ _ _
theorem lf_Sc_meanOfPlaces (o : Nat) (M : mv_M) (N : Nat) (σ : kS) : jf_Sc_meanOfPlaces N (wr_Sc o M σ) o = (kf_Sc_meanOfPlaces N σ).map (wq_Sc o M) := lb_Sc_meanOfPlaces_0 o M N σ
/-! ===== PlainLearner$Scores.scoreOf(I)J ===== -/
def kb_Sc_scoreOf_0 (N : Nat) (σ : kS) (v1 : Int32) : Option (Int64 × kS) :=
  if v1 = 0 then (kk_call (kf_Sc_shareInOrder N σ ) fun r29 s29 =>
  some (r29, s29)) else
  if v1 = 1 then (kk_call (kf_Sc_greatestShareRight N σ ) fun r34 s34 =>
  some (r34, s34)) else
  if v1 = 2 then (kk_call (kf_Sc_greatestBalance N σ ) fun r39 s39 =>
  some (r39, s39)) else
  kk_call (kf_Sc_meanOfPlaces N σ ) fun r44 s44 =>
  some (r44, s44)
def kf_Sc_scoreOf (N : Nat) (σ : kS) (v1 : Int32) : Option (Int64 × kS) := kb_Sc_scoreOf_0 N σ v1
set_option maxHeartbeats 4000000 in
theorem lb_Sc_scoreOf_0 (o : Nat) (M : mv_M) (N : Nat)  (σ : kS) (v1 : Int32) : jb_Sc_scoreOf_0 N (wr_Sc o M σ) o v1 = (kb_Sc_scoreOf_0 N σ v1).map (wq_Sc o M) := by
  unfold jb_Sc_scoreOf_0 kb_Sc_scoreOf_0
  refine km_ite (fun _ => ?_) (fun _ => ?_)
  · try rw [wo_Sc]
    try rw [lf_Sc_shareInOrder]
    refine km_call (fun r29 s29 => ?_)
    rfl
  refine km_ite (fun _ => ?_) (fun _ => ?_)
  · try rw [wo_Sc]
    try rw [lf_Sc_greatestShareRight]
    refine km_call (fun r34 s34 => ?_)
    rfl
  refine km_ite (fun _ => ?_) (fun _ => ?_)
  · try rw [wo_Sc]
    try rw [lf_Sc_greatestBalance]
    refine km_call (fun r39 s39 => ?_)
    rfl
  try rw [wo_Sc]
  try rw [lf_Sc_meanOfPlaces]
  refine km_call (fun r44 s44 => ?_)
  rfl
theorem lf_Sc_scoreOf (o : Nat) (M : mv_M) (N : Nat) (σ : kS) (v1 : Int32) : jf_Sc_scoreOf N (wr_Sc o M σ) o v1 = (kf_Sc_scoreOf N σ v1).map (wq_Sc o M) := lb_Sc_scoreOf_0 o M N σ v1
/-! ===== PlainLearner$Scores.dropAll()I ===== -/
def kb_Sc_dropAll_0 (N : Nat) (σ : kS) : Option (Int32 × kS) :=
  kk_let (kI σ 2 0) fun s7 =>
  some ((σ.1 2), s7)
def kf_Sc_dropAll (N : Nat) (σ : kS) : Option (Int32 × kS) := kb_Sc_dropAll_0 N σ
set_option maxHeartbeats 4000000 in
theorem lb_Sc_dropAll_0 (o : Nat) (M : mv_M) (N : Nat)  (σ : kS) : jb_Sc_dropAll_0 N (wr_Sc o M σ) o = (kb_Sc_dropAll_0 N σ).map (wq_Sc o M) := by
  unfold jb_Sc_dropAll_0 kb_Sc_dropAll_0
  first | rw [wg_Sc_2, Option.bind_some] | rw [Option.bind_some]
  rw [wp_Sc_2, Option.bind_some]
  refine km_let ?_
  rfl
theorem lf_Sc_dropAll (o : Nat) (M : mv_M) (N : Nat) (σ : kS) : jf_Sc_dropAll N (wr_Sc o M σ) o = (kf_Sc_dropAll N σ).map (wq_Sc o M) := lb_Sc_dropAll_0 o M N σ
/-! ===== PlainLearner$Tokens.addLetters(JI)I ===== -/
def kb_Tk_addLetters_11 (N : Nat) (σ : kS) : Option (Int32 × kS) :=
  some ((-1), σ)
def kb_Tk_addLetters_68 (N : Nat) : Nat → kS → Int64 → Int32 → Int32 → Option (Int32 × kS)
  | 0, _, _, _, _ => none
  | n + 1, σ, v1, v3, v4 =>
    if v3 ≤ v4 then (kk_let (kI σ 5 ((σ.1 5) + v3)) fun s105 =>
    some ((s105.1 5), s105)) else
    Option.bind (kf_Tk_letterAt N v1 v4) fun r88 =>
    mj_gd ((σ.1 5) + v4) 200 <| kk_let (kA σ 0 ((σ.1 5) + v4).toNatClampNeg r88) fun s91 =>
    kb_Tk_addLetters_68 N n s91 v1 v3 (v4 + 1)
def kb_Tk_addLetters_42 (N : Nat) (σ : kS) : Option (Int32 × kS) :=
  some ((-1), σ)
def kb_Tk_addLetters_16 (N : Nat) : Nat → kS → Int64 → Int32 → Int32 → Option (Int32 × kS)
  | 0, _, _, _, _ => none
  | n + 1, σ, v1, v3, v4 =>
    if v3 ≤ v4 then (if ((σ.1 5) + v3) ≤ 200 then (kb_Tk_addLetters_68 N N σ v1 v3 0) else
    some ((-3), σ)) else
    Option.bind (kf_Tk_letterAt N v1 v4) fun r25 =>
    if r25 < 0 then (kb_Tk_addLetters_42 N σ) else
    if r25 < 26 then (kb_Tk_addLetters_16 N n σ v1 v3 (v4 + 1)) else
    kb_Tk_addLetters_42 N σ
def kb_Tk_addLetters_0 (N : Nat) (σ : kS) (v1 : Int64) (v3 : Int32) : Option (Int32 × kS) :=
  if v3 < 1 then (kb_Tk_addLetters_11 N σ) else
  if v3 ≤ 8 then (kb_Tk_addLetters_16 N N σ v1 v3 0) else
  kb_Tk_addLetters_11 N σ
def kf_Tk_addLetters (N : Nat) (σ : kS) (v1 : Int64) (v3 : Int32) : Option (Int32 × kS) := kb_Tk_addLetters_0 N σ v1 v3
set_option maxHeartbeats 4000000 in
theorem lb_Tk_addLetters_11 (o : Nat) (M : mv_M) (N : Nat)  (σ : kS) : jb_Tk_addLetters_11 N (wr_Tk o M σ) = (kb_Tk_addLetters_11 N σ).map (wq_Tk o M) := by
  unfold jb_Tk_addLetters_11 kb_Tk_addLetters_11
  rfl
set_option maxHeartbeats 4000000 in
theorem lb_Tk_addLetters_68 (o : Nat) (M : mv_M) (N : Nat) : ∀ (n : Nat) (σ : kS) (v1 : Int64) (v3 : Int32) (v4 : Int32), jb_Tk_addLetters_68 N n (wr_Tk o M σ) o v1 v3 v4 = (kb_Tk_addLetters_68 N n σ v1 v3 v4).map (wq_Tk o M) := by
  intro n
  induction n with
  | zero => intros; rfl
  | succ n ih =>
    intro σ v1 v3 v4
    rw [jb_Tk_addLetters_68, kb_Tk_addLetters_68]
    refine km_ite (fun _ => ?_) (fun _ => ?_)
    · first | rw [wg_Tk_5, Option.bind_some] | rw [Option.bind_some]
      rw [wp_Tk_5, Option.bind_some]
      refine km_let ?_
      first | rw [wg_Tk_5, Option.bind_some] | rw [Option.bind_some]
      rfl
    · first | rw [wg_Tk_0, Option.bind_some] | rw [Option.bind_some]
      first | rw [wg_Tk_5, Option.bind_some] | rw [Option.bind_some]
      try rw [lf_Tk_letterAt]
      refine km_callP (fun r88 => ?_)
      rw [Option.bind_some]
      rw [wx_Tk_0]
      refine km_gd (fun _ => ?_)
      refine km_let ?_
      skip
      exact ih _ _ _ _
set_option maxHeartbeats 4000000 in
theorem lb_Tk_addLetters_42 (o : Nat) (M : mv_M) (N : Nat)  (σ : kS) : jb_Tk_addLetters_42 N (wr_Tk o M σ) = (kb_Tk_addLetters_42 N σ).map (wq_Tk o M) := by
  unfold jb_Tk_addLetters_42 kb_Tk_addLetters_42
  rfl
set_option maxHeartbeats 4000000 in
theorem lb_Tk_addLetters_16 (o : Nat) (M : mv_M) (N : Nat) : ∀ (n : Nat) (σ : kS) (v1 : Int64) (v3 : Int32) (v4 : Int32), jb_Tk_addLetters_16 N n (wr_Tk o M σ) o v1 v3 v4 = (kb_Tk_addLetters_16 N n σ v1 v3 v4).map (wq_Tk o M) := by
  intro n
  induction n with
  | zero => intros; rfl
  | succ n ih =>
    intro σ v1 v3 v4
    rw [jb_Tk_addLetters_16, kb_Tk_addLetters_16]
    refine km_ite (fun _ => ?_) (fun _ => ?_)
    · first | rw [wg_Tk_5, Option.bind_some] | rw [Option.bind_some]
      refine km_ite (fun _ => ?_) (fun _ => ?_)
      · exact lb_Tk_addLetters_68 o M N N _ _ _ _
      · rfl
    · try rw [lf_Tk_letterAt]
      refine km_callP (fun r25 => ?_)
      refine km_ite (fun _ => ?_) (fun _ => ?_)
      · exact lb_Tk_addLetters_42 o M N _
      · refine km_ite (fun _ => ?_) (fun _ => ?_)
        · exact ih _ _ _ _
        · exact lb_Tk_addLetters_42 o M N _
set_option maxHeartbeats 4000000 in
theorem lb_Tk_addLetters_0 (o : Nat) (M : mv_M) (N : Nat)  (σ : kS) (v1 : Int64) (v3 : Int32) : jb_Tk_addLetters_0 N (wr_Tk o M σ) o v1 v3 = (kb_Tk_addLetters_0 N σ v1 v3).map (wq_Tk o M) := by
  unfold jb_Tk_addLetters_0 kb_Tk_addLetters_0
  refine km_ite (fun _ => ?_) (fun _ => ?_)
  · exact lb_Tk_addLetters_11 o M N _
  · refine km_ite (fun _ => ?_) (fun _ => ?_)
    · exact lb_Tk_addLetters_16 o M N N _ _ _ _
    · exact lb_Tk_addLetters_11 o M N _
theorem lf_Tk_addLetters (o : Nat) (M : mv_M) (N : Nat) (σ : kS) (v1 : Int64) (v3 : Int32) : jf_Tk_addLetters N (wr_Tk o M σ) o v1 v3 = (kf_Tk_addLetters N σ v1 v3).map (wq_Tk o M) := lb_Tk_addLetters_0 o M N σ v1 v3
/-! ===== PlainLearner$Tokens.dropText()I ===== -/
def kb_Tk_dropText_0 (N : Nat) (σ : kS) : Option (Int32 × kS) :=
  kk_let (kI σ 5 0) fun s7 =>
  some ((σ.1 5), s7)
def kf_Tk_dropText (N : Nat) (σ : kS) : Option (Int32 × kS) := kb_Tk_dropText_0 N σ
set_option maxHeartbeats 4000000 in
theorem lb_Tk_dropText_0 (o : Nat) (M : mv_M) (N : Nat)  (σ : kS) : jb_Tk_dropText_0 N (wr_Tk o M σ) o = (kb_Tk_dropText_0 N σ).map (wq_Tk o M) := by
  unfold jb_Tk_dropText_0 kb_Tk_dropText_0
  first | rw [wg_Tk_5, Option.bind_some] | rw [Option.bind_some]
  rw [wp_Tk_5, Option.bind_some]
  refine km_let ?_
  rfl
theorem lf_Tk_dropText (o : Nat) (M : mv_M) (N : Nat) (σ : kS) : jf_Tk_dropText N (wr_Tk o M σ) o = (kf_Tk_dropText N σ).map (wq_Tk o M) := lb_Tk_dropText_0 o M N σ
/-! ===== PlainLearner$Tokens.pairAt(I)I ===== -/
def kb_Tk_pairAt_0 (N : Nat) (σ : kS) (v1 : Int32) : Option (Int32 × kS) :=
  Option.bind (mj_tab (σ.2.2.1 0) 200 v1) fun x5 =>
  Option.bind (mj_tab (σ.2.2.1 0) 200 (v1 + 1)) fun x16 =>
  some (((x5 * 86) + x16), σ)
def kf_Tk_pairAt (N : Nat) (σ : kS) (v1 : Int32) : Option (Int32 × kS) := kb_Tk_pairAt_0 N σ v1
set_option maxHeartbeats 4000000 in
theorem lb_Tk_pairAt_0 (o : Nat) (M : mv_M) (N : Nat)  (σ : kS) (v1 : Int32) : jb_Tk_pairAt_0 N (wr_Tk o M σ) o v1 = (kb_Tk_pairAt_0 N σ v1).map (wq_Tk o M) := by
  unfold jb_Tk_pairAt_0 kb_Tk_pairAt_0
  first | rw [wg_Tk_0, Option.bind_some] | rw [Option.bind_some]
  rw [Option.bind_some]
  try rw [wl_Tk_0]
  refine km_bind (fun x5 => ?_)
  first | rw [wg_Tk_0, Option.bind_some] | rw [Option.bind_some]
  rw [Option.bind_some]
  try rw [wl_Tk_0]
  refine km_bind (fun x16 => ?_)
  rfl
theorem lf_Tk_pairAt (o : Nat) (M : mv_M) (N : Nat) (σ : kS) (v1 : Int32) : jf_Tk_pairAt N (wr_Tk o M σ) o v1 = (kf_Tk_pairAt N σ v1).map (wq_Tk o M) := lb_Tk_pairAt_0 o M N σ v1
/-! ===== PlainLearner$Tokens.countPairs()V ===== -/
def kb_Tk_countPairs_95 (N : Nat) (c33 : kS → Int32 → Int32 → Option (Unit × kS)) (σ : kS) (v2 : Int32) (s0 : Int32) : Option (Unit × kS) :=
  c33 σ s0 (v2 + 1)
def kb_Tk_countPairs_86 (N : Nat) (c33 : kS → Int32 → Int32 → Option (Unit × kS)) (σ : kS) (v2 : Int32) (v3 : Int32) : Option (Unit × kS) :=
  if v3 = 0 then (kb_Tk_countPairs_95 N c33 σ v2 1) else
  kb_Tk_countPairs_95 N c33 σ v2 0
def kb_Tk_countPairs_67 (N : Nat) (c33 : kS → Int32 → Int32 → Option (Unit × kS)) (σ : kS) (v2 : Int32) (s0 : Int32) : Option (Unit × kS) :=
  if s0 = 0 then (kk_call (kf_Tk_pairAt N σ v2) fun r78 s78 =>
  Option.bind (mj_tab (s78.2.2.1 4) 7396 r78) fun x82 =>
  mj_gd r78 7396 <| kk_let (kA s78 4 r78.toNatClampNeg (x82 + 1)) fun s85 =>
  kb_Tk_countPairs_86 N c33 s85 v2 s0) else
  kb_Tk_countPairs_86 N c33 σ v2 s0
def kb_Tk_countPairs_66 (N : Nat) (c33 : kS → Int32 → Int32 → Option (Unit × kS)) (σ : kS) (v2 : Int32) : Option (Unit × kS) :=
  kb_Tk_countPairs_67 N c33 σ v2 0
def kb_Tk_countPairs_33 (N : Nat) : Nat → kS → Int32 → Int32 → Option (Unit × kS)
  | 0, _, _, _ => none
  | n + 1, σ, v1, v2 =>
    if (σ.1 5) ≤ (v2 + 1) then (some ((), σ)) else
    if v1 = 0 then (kb_Tk_countPairs_66 N (kb_Tk_countPairs_33 N n) σ v2) else
    kk_call (kf_Tk_pairAt N σ v2) fun r49 s49 =>
    kk_call (kf_Tk_pairAt N s49 (v2 - 1)) fun r56 s56 =>
    if r49 = r56 then (kb_Tk_countPairs_67 N (kb_Tk_countPairs_33 N n) s56 v2 1) else
    kb_Tk_countPairs_66 N (kb_Tk_countPairs_33 N n) s56 v2
def kb_Tk_countPairs_2 (N : Nat) : Nat → kS → Int32 → Option (Unit × kS)
  | 0, _, _ => none
  | n + 1, σ, v1 =>
    if (σ.1 5) ≤ (v1 + 1) then (kb_Tk_countPairs_33 N N σ 0 0) else
    kk_call (kf_Tk_pairAt N σ v1) fun r18 s18 =>
    mj_gd r18 7396 <| kk_let (kA s18 4 r18.toNatClampNeg 0) fun s22 =>
    kb_Tk_countPairs_2 N n s22 (v1 + 1)
def kb_Tk_countPairs_0 (N : Nat) (σ : kS) : Option (Unit × kS) :=
  kb_Tk_countPairs_2 N N σ 0
def kf_Tk_countPairs (N : Nat) (σ : kS) : Option (Unit × kS) := kb_Tk_countPairs_0 N σ
set_option maxHeartbeats 4000000 in
theorem lb_Tk_countPairs_95 (o : Nat) (M : mv_M) (N : Nat) (k33 : mv_M → Nat → Int32 → Int32 → Option (Unit × mv_M)) (c33 : kS → Int32 → Int32 → Option (Unit × kS)) (hc33 : ∀ (σ : kS) (v1 : Int32) (v2 : Int32), k33 (wr_Tk o M σ) o v1 v2 = (c33 σ v1 v2).map (wq_Tk o M))  (σ : kS) (v2 : Int32) (s0 : Int32) : jb_Tk_countPairs_95 N k33 (wr_Tk o M σ) o v2 s0 = (kb_Tk_countPairs_95 N c33 σ v2 s0).map (wq_Tk o M) := by
  unfold jb_Tk_countPairs_95 kb_Tk_countPairs_95
  exact hc33 _ _ _
set_option maxHeartbeats 4000000 in
theorem lb_Tk_countPairs_86 (o : Nat) (M : mv_M) (N : Nat) (k33 : mv_M → Nat → Int32 → Int32 → Option (Unit × mv_M)) (c33 : kS → Int32 → Int32 → Option (Unit × kS)) (hc33 : ∀ (σ : kS) (v1 : Int32) (v2 : Int32), k33 (wr_Tk o M σ) o v1 v2 = (c33 σ v1 v2).map (wq_Tk o M))  (σ : kS) (v2 : Int32) (v3 : Int32) : jb_Tk_countPairs_86 N k33 (wr_Tk o M σ) o v2 v3 = (kb_Tk_countPairs_86 N c33 σ v2 v3).map (wq_Tk o M) := by
  unfold jb_Tk_countPairs_86 kb_Tk_countPairs_86
  refine km_ite (fun _ => ?_) (fun _ => ?_)
  · exact lb_Tk_countPairs_95 o M N _ _ hc33 _ _ _
  · exact lb_Tk_countPairs_95 o M N _ _ hc33 _ _ _
set_option maxHeartbeats 4000000 in
theorem lb_Tk_countPairs_67 (o : Nat) (M : mv_M) (N : Nat) (k33 : mv_M → Nat → Int32 → Int32 → Option (Unit × mv_M)) (c33 : kS → Int32 → Int32 → Option (Unit × kS)) (hc33 : ∀ (σ : kS) (v1 : Int32) (v2 : Int32), k33 (wr_Tk o M σ) o v1 v2 = (c33 σ v1 v2).map (wq_Tk o M))  (σ : kS) (v2 : Int32) (s0 : Int32) : jb_Tk_countPairs_67 N k33 (wr_Tk o M σ) o v2 s0 = (kb_Tk_countPairs_67 N c33 σ v2 s0).map (wq_Tk o M) := by
  unfold jb_Tk_countPairs_67 kb_Tk_countPairs_67
  refine km_ite (fun _ => ?_) (fun _ => ?_)
  · first | rw [wg_Tk_4, Option.bind_some] | rw [Option.bind_some]
    try rw [wo_Tk]
    try rw [lf_Tk_pairAt]
    refine km_call (fun r78 s78 => ?_)
    rw [Option.bind_some]
    try rw [wl_Tk_4]
    refine km_bind (fun x82 => ?_)
    rw [wx_Tk_4]
    refine km_gd (fun _ => ?_)
    refine km_let ?_
    exact lb_Tk_countPairs_86 o M N _ _ hc33 _ _ _
  · exact lb_Tk_countPairs_86 o M N _ _ hc33 _ _ _
set_option maxHeartbeats 4000000 in
theorem lb_Tk_countPairs_66 (o : Nat) (M : mv_M) (N : Nat) (k33 : mv_M → Nat → Int32 → Int32 → Option (Unit × mv_M)) (c33 : kS → Int32 → Int32 → Option (Unit × kS)) (hc33 : ∀ (σ : kS) (v1 : Int32) (v2 : Int32), k33 (wr_Tk o M σ) o v1 v2 = (c33 σ v1 v2).map (wq_Tk o M))  (σ : kS) (v2 : Int32) : jb_Tk_countPairs_66 N k33 (wr_Tk o M σ) o v2 = (kb_Tk_countPairs_66 N c33 σ v2).map (wq_Tk o M) := by
  unfold jb_Tk_countPairs_66 kb_Tk_countPairs_66
  exact lb_Tk_countPairs_67 o M N _ _ hc33 _ _ _
set_option maxHeartbeats 4000000 in
theorem lb_Tk_countPairs_33 (o : Nat) (M : mv_M) (N : Nat) : ∀ (n : Nat) (σ : kS) (v1 : Int32) (v2 : Int32), jb_Tk_countPairs_33 N n (wr_Tk o M σ) o v1 v2 = (kb_Tk_countPairs_33 N n σ v1 v2).map (wq_Tk o M) := by
  intro n
  induction n with
  | zero => intros; rfl
  | succ n ih =>
    intro σ v1 v2
    rw [jb_Tk_countPairs_33, kb_Tk_countPairs_33]
    first | rw [wg_Tk_5, Option.bind_some] | rw [Option.bind_some]
    refine km_ite (fun _ => ?_) (fun _ => ?_)
    · rfl
    · refine km_ite (fun _ => ?_) (fun _ => ?_)
      · exact lb_Tk_countPairs_66 o M N _ _ ih _ _
      · try rw [wo_Tk]
        try rw [lf_Tk_pairAt]
        refine km_call (fun r49 s49 => ?_)
        try rw [wo_Tk]
        try rw [lf_Tk_pairAt]
        refine km_call (fun r56 s56 => ?_)
        refine km_ite (fun _ => ?_) (fun _ => ?_)
        · exact lb_Tk_countPairs_67 o M N _ _ ih _ _ _
        · exact lb_Tk_countPairs_66 o M N _ _ ih _ _
set_option maxHeartbeats 4000000 in
theorem lb_Tk_countPairs_2 (o : Nat) (M : mv_M) (N : Nat) : ∀ (n : Nat) (σ : kS) (v1 : Int32), jb_Tk_countPairs_2 N n (wr_Tk o M σ) o v1 = (kb_Tk_countPairs_2 N n σ v1).map (wq_Tk o M) := by
  intro n
  induction n with
  | zero => intros; rfl
  | succ n ih =>
    intro σ v1
    rw [jb_Tk_countPairs_2, kb_Tk_countPairs_2]
    first | rw [wg_Tk_5, Option.bind_some] | rw [Option.bind_some]
    refine km_ite (fun _ => ?_) (fun _ => ?_)
    · exact lb_Tk_countPairs_33 o M N N _ _ _
    · first | rw [wg_Tk_4, Option.bind_some] | rw [Option.bind_some]
      try rw [wo_Tk]
      try rw [lf_Tk_pairAt]
      refine km_call (fun r18 s18 => ?_)
      rw [Option.bind_some]
      rw [wx_Tk_4]
      refine km_gd (fun _ => ?_)
      refine km_let ?_
      skip
      exact ih _ _
set_option maxHeartbeats 4000000 in
theorem lb_Tk_countPairs_0 (o : Nat) (M : mv_M) (N : Nat)  (σ : kS) : jb_Tk_countPairs_0 N (wr_Tk o M σ) o = (kb_Tk_countPairs_0 N σ).map (wq_Tk o M) := by
  unfold jb_Tk_countPairs_0 kb_Tk_countPairs_0
  exact lb_Tk_countPairs_2 o M N N _ _
theorem lf_Tk_countPairs (o : Nat) (M : mv_M) (N : Nat) (σ : kS) : jf_Tk_countPairs N (wr_Tk o M σ) o = (kf_Tk_countPairs N σ).map (wq_Tk o M) := lb_Tk_countPairs_0 o M N σ
/-! ===== PlainLearner$Tokens.mostFrequentPair()I ===== -/
def kb_Tk_mostFrequentPair_62 (N : Nat) (c6 : kS → Int32 → Int32 → Int32 → Option (Int32 × kS)) (σ : kS) (v1 : Int32) (v2 : Int32) (v3 : Int32) : Option (Int32 × kS) :=
  c6 σ v1 v2 (v3 + 1)
def kb_Tk_mostFrequentPair_51 (N : Nat) (c6 : kS → Int32 → Int32 → Int32 → Option (Int32 × kS)) (σ : kS) (v3 : Int32) (v4 : Int32) : Option (Int32 × kS) :=
  Option.bind (mj_tab (σ.2.2.1 4) 7396 v4) fun x60 =>
  kb_Tk_mostFrequentPair_62 N c6 σ v4 x60 v3
def kb_Tk_mostFrequentPair_6 (N : Nat) : Nat → kS → Int32 → Int32 → Int32 → Option (Int32 × kS)
  | 0, _, _, _, _ => none
  | n + 1, σ, v1, v2, v3 =>
    if (σ.1 5) ≤ (v3 + 1) then (some (v1, σ)) else
    kk_call (kf_Tk_pairAt N σ v3) fun r18 s18 =>
    Option.bind (mj_tab (s18.2.2.1 4) 7396 r18) fun x29 =>
    if v2 < x29 then (kb_Tk_mostFrequentPair_51 N (kb_Tk_mostFrequentPair_6 N n) s18 v3 r18) else
    Option.bind (mj_tab (s18.2.2.1 4) 7396 r18) fun x40 =>
    if x40 = v2 then (if v1 ≤ r18 then (kb_Tk_mostFrequentPair_62 N (kb_Tk_mostFrequentPair_6 N n) s18 v1 v2 v3) else
    kb_Tk_mostFrequentPair_51 N (kb_Tk_mostFrequentPair_6 N n) s18 v3 r18) else
    kb_Tk_mostFrequentPair_62 N (kb_Tk_mostFrequentPair_6 N n) s18 v1 v2 v3
def kb_Tk_mostFrequentPair_0 (N : Nat) (σ : kS) : Option (Int32 × kS) :=
  kb_Tk_mostFrequentPair_6 N N σ (-1) 1 0
def kf_Tk_mostFrequentPair (N : Nat) (σ : kS) : Option (Int32 × kS) := kb_Tk_mostFrequentPair_0 N σ
set_option maxHeartbeats 4000000 in
theorem lb_Tk_mostFrequentPair_62 (o : Nat) (M : mv_M) (N : Nat) (k6 : mv_M → Nat → Int32 → Int32 → Int32 → Option (Int32 × mv_M)) (c6 : kS → Int32 → Int32 → Int32 → Option (Int32 × kS)) (hc6 : ∀ (σ : kS) (v1 : Int32) (v2 : Int32) (v3 : Int32), k6 (wr_Tk o M σ) o v1 v2 v3 = (c6 σ v1 v2 v3).map (wq_Tk o M))  (σ : kS) (v1 : Int32) (v2 : Int32) (v3 : Int32) : jb_Tk_mostFrequentPair_62 N k6 (wr_Tk o M σ) o v1 v2 v3 = (kb_Tk_mostFrequentPair_62 N c6 σ v1 v2 v3).map (wq_Tk o M) := by
  unfold jb_Tk_mostFrequentPair_62 kb_Tk_mostFrequentPair_62
  exact hc6 _ _ _ _
set_option maxHeartbeats 4000000 in
theorem lb_Tk_mostFrequentPair_51 (o : Nat) (M : mv_M) (N : Nat) (k6 : mv_M → Nat → Int32 → Int32 → Int32 → Option (Int32 × mv_M)) (c6 : kS → Int32 → Int32 → Int32 → Option (Int32 × kS)) (hc6 : ∀ (σ : kS) (v1 : Int32) (v2 : Int32) (v3 : Int32), k6 (wr_Tk o M σ) o v1 v2 v3 = (c6 σ v1 v2 v3).map (wq_Tk o M))  (σ : kS) (v3 : Int32) (v4 : Int32) : jb_Tk_mostFrequentPair_51 N k6 (wr_Tk o M σ) o v3 v4 = (kb_Tk_mostFrequentPair_51 N c6 σ v3 v4).map (wq_Tk o M) := by
  unfold jb_Tk_mostFrequentPair_51 kb_Tk_mostFrequentPair_51
  first | rw [wg_Tk_4, Option.bind_some] | rw [Option.bind_some]
  rw [Option.bind_some]
  try rw [wl_Tk_4]
  refine km_bind (fun x60 => ?_)
  exact lb_Tk_mostFrequentPair_62 o M N _ _ hc6 _ _ _ _
set_option maxHeartbeats 4000000 in
theorem lb_Tk_mostFrequentPair_6 (o : Nat) (M : mv_M) (N : Nat) : ∀ (n : Nat) (σ : kS) (v1 : Int32) (v2 : Int32) (v3 : Int32), jb_Tk_mostFrequentPair_6 N n (wr_Tk o M σ) o v1 v2 v3 = (kb_Tk_mostFrequentPair_6 N n σ v1 v2 v3).map (wq_Tk o M) := by
  intro n
  induction n with
  | zero => intros; rfl
  | succ n ih =>
    intro σ v1 v2 v3
    rw [jb_Tk_mostFrequentPair_6, kb_Tk_mostFrequentPair_6]
    first | rw [wg_Tk_5, Option.bind_some] | rw [Option.bind_some]
    refine km_ite (fun _ => ?_) (fun _ => ?_)
    · rfl
    · try rw [wo_Tk]
      try rw [lf_Tk_pairAt]
      refine km_call (fun r18 s18 => ?_)
      first | rw [wg_Tk_4, Option.bind_some] | rw [Option.bind_some]
      rw [Option.bind_some]
      try rw [wl_Tk_4]
      refine km_bind (fun x29 => ?_)
      refine km_ite (fun _ => ?_) (fun _ => ?_)
      · exact lb_Tk_mostFrequentPair_51 o M N _ _ ih _ _ _
      · first | rw [wg_Tk_4, Option.bind_some] | rw [Option.bind_some]
        rw [Option.bind_some]
        try rw [wl_Tk_4]
        refine km_bind (fun x40 => ?_)
        refine km_ite (fun _ => ?_) (fun _ => ?_)
        · refine km_ite (fun _ => ?_) (fun _ => ?_)
          · exact lb_Tk_mostFrequentPair_62 o M N _ _ ih _ _ _ _
          · exact lb_Tk_mostFrequentPair_51 o M N _ _ ih _ _ _
        · exact lb_Tk_mostFrequentPair_62 o M N _ _ ih _ _ _ _
set_option maxHeartbeats 4000000 in
theorem lb_Tk_mostFrequentPair_0 (o : Nat) (M : mv_M) (N : Nat)  (σ : kS) : jb_Tk_mostFrequentPair_0 N (wr_Tk o M σ) o = (kb_Tk_mostFrequentPair_0 N σ).map (wq_Tk o M) := by
  unfold jb_Tk_mostFrequentPair_0 kb_Tk_mostFrequentPair_0
  exact lb_Tk_mostFrequentPair_6 o M N N _ _ _ _
theorem lf_Tk_mostFrequentPair (o : Nat) (M : mv_M) (N : Nat) (σ : kS) : jf_Tk_mostFrequentPair N (wr_Tk o M σ) o = (kf_Tk_mostFrequentPair N σ).map (wq_Tk o M) := lb_Tk_mostFrequentPair_0 o M N σ
/-! ===== PlainLearner$Tokens.lettersOf(I)I ===== -/
def kb_Tk_lettersOf_19 (N : Nat) (σ : kS) (s0 : Int32) : Option (Int32 × kS) :=
  some (s0, σ)
def kb_Tk_lettersOf_0 (N : Nat) (σ : kS) (v1 : Int32) : Option (Int32 × kS) :=
  if 26 ≤ v1 then (Option.bind (mj_tab (σ.2.2.1 3) 60 (v1 - 26)) fun x18 =>
  kb_Tk_lettersOf_19 N σ x18) else
  kb_Tk_lettersOf_19 N σ 1
def kf_Tk_lettersOf (N : Nat) (σ : kS) (v1 : Int32) : Option (Int32 × kS) := kb_Tk_lettersOf_0 N σ v1
set_option maxHeartbeats 4000000 in
theorem lb_Tk_lettersOf_19 (o : Nat) (M : mv_M) (N : Nat)  (σ : kS) (s0 : Int32) : jb_Tk_lettersOf_19 N (wr_Tk o M σ) s0 = (kb_Tk_lettersOf_19 N σ s0).map (wq_Tk o M) := by
  unfold jb_Tk_lettersOf_19 kb_Tk_lettersOf_19
  rfl
set_option maxHeartbeats 4000000 in
theorem lb_Tk_lettersOf_0 (o : Nat) (M : mv_M) (N : Nat)  (σ : kS) (v1 : Int32) : jb_Tk_lettersOf_0 N (wr_Tk o M σ) o v1 = (kb_Tk_lettersOf_0 N σ v1).map (wq_Tk o M) := by
  unfold jb_Tk_lettersOf_0 kb_Tk_lettersOf_0
  refine km_ite (fun _ => ?_) (fun _ => ?_)
  · first | rw [wg_Tk_3, Option.bind_some] | rw [Option.bind_some]
    rw [Option.bind_some]
    try rw [wl_Tk_3]
    refine km_bind (fun x18 => ?_)
    exact lb_Tk_lettersOf_19 o M N _ _
  · exact lb_Tk_lettersOf_19 o M N _ _
theorem lf_Tk_lettersOf (o : Nat) (M : mv_M) (N : Nat) (σ : kS) (v1 : Int32) : jf_Tk_lettersOf N (wr_Tk o M σ) o v1 = (kf_Tk_lettersOf N σ v1).map (wq_Tk o M) := lb_Tk_lettersOf_0 o M N σ v1
/-! ===== PlainLearner$Tokens.doMerge(I)V ===== -/
def kb_Tk_doMerge_99 (N : Nat) (c4 : kS → Int32 → Int32 → Int32 → Option (Unit × kS)) (σ : kS) (v1 : Int32) (v2 : Int32) (s0 : Int32) (s1 : Int32) : Option (Unit × kS) :=
  c4 σ v1 v2 (s0 + s1)
def kb_Tk_doMerge_84 (N : Nat) (c4 : kS → Int32 → Int32 → Int32 → Option (Unit × kS)) (σ : kS) (v1 : Int32) (v2 : Int32) (v3 : Int32) (v4 : Int32) (s1 : Int32) (s2 : Int32) : Option (Unit × kS) :=
  mj_gd s1 200 <| kk_let (kA σ 0 s1.toNatClampNeg s2) fun s84 =>
  if v4 = 0 then (kb_Tk_doMerge_99 N c4 s84 v1 (v2 + 1) v3 1) else
  kb_Tk_doMerge_99 N c4 s84 v1 (v2 + 1) v3 2
def kb_Tk_doMerge_59 (N : Nat) (c4 : kS → Int32 → Int32 → Int32 → Option (Unit × kS)) (σ : kS) (v1 : Int32) (v2 : Int32) (v3 : Int32) (s0 : Int32) : Option (Unit × kS) :=
  if s0 = 0 then (Option.bind (mj_tab (σ.2.2.1 0) 200 v3) fun x83 =>
  kb_Tk_doMerge_84 N c4 σ v1 v2 v3 s0 v2 x83) else
  kb_Tk_doMerge_84 N c4 σ v1 v2 v3 s0 v2 (26 + v1)
def kb_Tk_doMerge_58 (N : Nat) (c4 : kS → Int32 → Int32 → Int32 → Option (Unit × kS)) (σ : kS) (v1 : Int32) (v2 : Int32) (v3 : Int32) : Option (Unit × kS) :=
  kb_Tk_doMerge_59 N c4 σ v1 v2 v3 0
def kb_Tk_doMerge_4 (N : Nat) : Nat → kS → Int32 → Int32 → Int32 → Option (Unit × kS)
  | 0, _, _, _, _ => none
  | n + 1, σ, v1, v2, v3 =>
    if (σ.1 5) ≤ v3 then (kk_let (kI σ 5 v2) fun s106 =>
    some ((), s106)) else
    if (σ.1 5) ≤ (v3 + 1) then (kb_Tk_doMerge_58 N (kb_Tk_doMerge_4 N n) σ v1 v2 v3) else
    Option.bind (mj_tab (σ.2.2.1 0) 200 v3) fun x27 =>
    Option.bind (mj_tab (σ.2.2.1 1) 60 v1) fun x33 =>
    if x27 = x33 then (Option.bind (mj_tab (σ.2.2.1 0) 200 (v3 + 1)) fun x44 =>
    Option.bind (mj_tab (σ.2.2.1 2) 60 v1) fun x50 =>
    if x44 = x50 then (kb_Tk_doMerge_59 N (kb_Tk_doMerge_4 N n) σ v1 v2 v3 1) else
    kb_Tk_doMerge_58 N (kb_Tk_doMerge_4 N n) σ v1 v2 v3) else
    kb_Tk_doMerge_58 N (kb_Tk_doMerge_4 N n) σ v1 v2 v3
def kb_Tk_doMerge_0 (N : Nat) (σ : kS) (v1 : Int32) : Option (Unit × kS) :=
  kb_Tk_doMerge_4 N N σ v1 0 0
def kf_Tk_doMerge (N : Nat) (σ : kS) (v1 : Int32) : Option (Unit × kS) := kb_Tk_doMerge_0 N σ v1
set_option maxHeartbeats 4000000 in
theorem lb_Tk_doMerge_99 (o : Nat) (M : mv_M) (N : Nat) (k4 : mv_M → Nat → Int32 → Int32 → Int32 → Option (Unit × mv_M)) (c4 : kS → Int32 → Int32 → Int32 → Option (Unit × kS)) (hc4 : ∀ (σ : kS) (v1 : Int32) (v2 : Int32) (v3 : Int32), k4 (wr_Tk o M σ) o v1 v2 v3 = (c4 σ v1 v2 v3).map (wq_Tk o M))  (σ : kS) (v1 : Int32) (v2 : Int32) (s0 : Int32) (s1 : Int32) : jb_Tk_doMerge_99 N k4 (wr_Tk o M σ) o v1 v2 s0 s1 = (kb_Tk_doMerge_99 N c4 σ v1 v2 s0 s1).map (wq_Tk o M) := by
  unfold jb_Tk_doMerge_99 kb_Tk_doMerge_99
  exact hc4 _ _ _ _
set_option maxHeartbeats 4000000 in
theorem lb_Tk_doMerge_84 (o : Nat) (M : mv_M) (N : Nat) (k4 : mv_M → Nat → Int32 → Int32 → Int32 → Option (Unit × mv_M)) (c4 : kS → Int32 → Int32 → Int32 → Option (Unit × kS)) (hc4 : ∀ (σ : kS) (v1 : Int32) (v2 : Int32) (v3 : Int32), k4 (wr_Tk o M σ) o v1 v2 v3 = (c4 σ v1 v2 v3).map (wq_Tk o M))  (σ : kS) (v1 : Int32) (v2 : Int32) (v3 : Int32) (v4 : Int32) (s1 : Int32) (s2 : Int32) : jb_Tk_doMerge_84 N k4 (wr_Tk o M σ) o v1 v2 v3 v4 (some (o + 1)) s1 s2 = (kb_Tk_doMerge_84 N c4 σ v1 v2 v3 v4 s1 s2).map (wq_Tk o M) := by
  unfold jb_Tk_doMerge_84 kb_Tk_doMerge_84
  rw [Option.bind_some]
  rw [wx_Tk_0]
  refine km_gd (fun _ => ?_)
  refine km_let ?_
  refine km_ite (fun _ => ?_) (fun _ => ?_)
  · exact lb_Tk_doMerge_99 o M N _ _ hc4 _ _ _ _ _
  · exact lb_Tk_doMerge_99 o M N _ _ hc4 _ _ _ _ _
set_option maxHeartbeats 4000000 in
theorem lb_Tk_doMerge_59 (o : Nat) (M : mv_M) (N : Nat) (k4 : mv_M → Nat → Int32 → Int32 → Int32 → Option (Unit × mv_M)) (c4 : kS → Int32 → Int32 → Int32 → Option (Unit × kS)) (hc4 : ∀ (σ : kS) (v1 : Int32) (v2 : Int32) (v3 : Int32), k4 (wr_Tk o M σ) o v1 v2 v3 = (c4 σ v1 v2 v3).map (wq_Tk o M))  (σ : kS) (v1 : Int32) (v2 : Int32) (v3 : Int32) (s0 : Int32) : jb_Tk_doMerge_59 N k4 (wr_Tk o M σ) o v1 v2 v3 s0 = (kb_Tk_doMerge_59 N c4 σ v1 v2 v3 s0).map (wq_Tk o M) := by
  unfold jb_Tk_doMerge_59 kb_Tk_doMerge_59
  first | rw [wg_Tk_0, Option.bind_some] | rw [Option.bind_some]
  refine km_ite (fun _ => ?_) (fun _ => ?_)
  · first | rw [wg_Tk_0, Option.bind_some] | rw [Option.bind_some]
    rw [Option.bind_some]
    try rw [wl_Tk_0]
    refine km_bind (fun x83 => ?_)
    exact lb_Tk_doMerge_84 o M N _ _ hc4 _ _ _ _ _ _ _
  · exact lb_Tk_doMerge_84 o M N _ _ hc4 _ _ _ _ _ _ _
set_option maxHeartbeats 4000000 in
theorem lb_Tk_doMerge_58 (o : Nat) (M : mv_M) (N : Nat) (k4 : mv_M → Nat → Int32 → Int32 → Int32 → Option (Unit × mv_M)) (c4 : kS → Int32 → Int32 → Int32 → Option (Unit × kS)) (hc4 : ∀ (σ : kS) (v1 : Int32) (v2 : Int32) (v3 : Int32), k4 (wr_Tk o M σ) o v1 v2 v3 = (c4 σ v1 v2 v3).map (wq_Tk o M))  (σ : kS) (v1 : Int32) (v2 : Int32) (v3 : Int32) : jb_Tk_doMerge_58 N k4 (wr_Tk o M σ) o v1 v2 v3 = (kb_Tk_doMerge_58 N c4 σ v1 v2 v3).map (wq_Tk o M) := by
  unfold jb_Tk_doMerge_58 kb_Tk_doMerge_58
  exact lb_Tk_doMerge_59 o M N _ _ hc4 _ _ _ _ _
set_option maxHeartbeats 4000000 in
theorem lb_Tk_doMerge_4 (o : Nat) (M : mv_M) (N : Nat) : ∀ (n : Nat) (σ : kS) (v1 : Int32) (v2 : Int32) (v3 : Int32), jb_Tk_doMerge_4 N n (wr_Tk o M σ) o v1 v2 v3 = (kb_Tk_doMerge_4 N n σ v1 v2 v3).map (wq_Tk o M) := by
  intro n
  induction n with
  | zero => intros; rfl
  | succ n ih =>
    intro σ v1 v2 v3
    rw [jb_Tk_doMerge_4, kb_Tk_doMerge_4]
    first | rw [wg_Tk_5, Option.bind_some] | rw [Option.bind_some]
    refine km_ite (fun _ => ?_) (fun _ => ?_)
    · rw [wp_Tk_5, Option.bind_some]
      refine km_let ?_
      rfl
    · first | rw [wg_Tk_5, Option.bind_some] | rw [Option.bind_some]
      refine km_ite (fun _ => ?_) (fun _ => ?_)
      · exact lb_Tk_doMerge_58 o M N _ _ ih _ _ _ _
      · first | rw [wg_Tk_0, Option.bind_some] | rw [Option.bind_some]
        rw [Option.bind_some]
        try rw [wl_Tk_0]
        refine km_bind (fun x27 => ?_)
        first | rw [wg_Tk_1, Option.bind_some] | rw [Option.bind_some]
        rw [Option.bind_some]
        try rw [wl_Tk_1]
        refine km_bind (fun x33 => ?_)
        refine km_ite (fun _ => ?_) (fun _ => ?_)
        · first | rw [wg_Tk_0, Option.bind_some] | rw [Option.bind_some]
          rw [Option.bind_some]
          try rw [wl_Tk_0]
          refine km_bind (fun x44 => ?_)
          first | rw [wg_Tk_2, Option.bind_some] | rw [Option.bind_some]
          rw [Option.bind_some]
          try rw [wl_Tk_2]
          refine km_bind (fun x50 => ?_)
          refine km_ite (fun _ => ?_) (fun _ => ?_)
          · exact lb_Tk_doMerge_59 o M N _ _ ih _ _ _ _ _
          · exact lb_Tk_doMerge_58 o M N _ _ ih _ _ _ _
        · exact lb_Tk_doMerge_58 o M N _ _ ih _ _ _ _
set_option maxHeartbeats 4000000 in
theorem lb_Tk_doMerge_0 (o : Nat) (M : mv_M) (N : Nat)  (σ : kS) (v1 : Int32) : jb_Tk_doMerge_0 N (wr_Tk o M σ) o v1 = (kb_Tk_doMerge_0 N σ v1).map (wq_Tk o M) := by
  unfold jb_Tk_doMerge_0 kb_Tk_doMerge_0
  exact lb_Tk_doMerge_4 o M N N _ _ _ _
theorem lf_Tk_doMerge (o : Nat) (M : mv_M) (N : Nat) (σ : kS) (v1 : Int32) : jf_Tk_doMerge N (wr_Tk o M σ) o v1 = (kf_Tk_doMerge N σ v1).map (wq_Tk o M) := lb_Tk_doMerge_0 o M N σ v1
/-! ===== PlainLearner$Tokens.learnMerge()I ===== -/
def kb_Tk_learnMerge_0 (N : Nat) (σ : kS) : Option (Int32 × kS) :=
  kk_call (kf_Tk_countPairs N σ ) fun r1 s1 =>
  kk_call (kf_Tk_mostFrequentPair N s1 ) fun r5 s5 =>
  if 0 ≤ r5 then (if (s5.1 6) < 60 then (mj_gd (s5.1 6) 60 <| kk_let (kA s5 1 (s5.1 6).toNatClampNeg (r5 / 86)) fun s40 =>
  mj_gd (s40.1 6) 60 <| kk_let (kA s40 2 (s40.1 6).toNatClampNeg (r5 - r5 / 86 * 86)) fun s53 =>
  Option.bind (mj_tab (s53.2.2.1 1) 60 (s53.1 6)) fun x71 =>
  kk_call (kf_Tk_lettersOf N s53 x71) fun r72 s72 =>
  Option.bind (mj_tab (s72.2.2.1 2) 60 (s72.1 6)) fun x84 =>
  kk_call (kf_Tk_lettersOf N s72 x84) fun r85 s85 =>
  mj_gd (s53.1 6) 60 <| kk_let (kA s85 3 (s53.1 6).toNatClampNeg (r72 + r85)) fun s89 =>
  kk_call (kf_Tk_doMerge N s89 (s89.1 6)) fun r95 s95 =>
  kk_let (kI s95 6 ((s95.1 6) + 1)) fun s105 =>
  some (((26 + (s105.1 6)) - 1), s105)) else
  some ((-3), s5)) else
  some ((-2), s5)
def kf_Tk_learnMerge (N : Nat) (σ : kS) : Option (Int32 × kS) := kb_Tk_learnMerge_0 N σ
set_option maxHeartbeats 4000000 in
theorem lb_Tk_learnMerge_0 (o : Nat) (M : mv_M) (N : Nat)  (σ : kS) : jb_Tk_learnMerge_0 N (wr_Tk o M σ) o = (kb_Tk_learnMerge_0 N σ).map (wq_Tk o M) := by
  unfold jb_Tk_learnMerge_0 kb_Tk_learnMerge_0
  try rw [wo_Tk]
  try rw [lf_Tk_countPairs]
  refine km_call (fun r1 s1 => ?_)
  try rw [wo_Tk]
  try rw [lf_Tk_mostFrequentPair]
  refine km_call (fun r5 s5 => ?_)
  refine km_ite (fun _ => ?_) (fun _ => ?_)
  · first | rw [wg_Tk_6, Option.bind_some] | rw [Option.bind_some]
    refine km_ite (fun _ => ?_) (fun _ => ?_)
    · first | rw [wg_Tk_1, Option.bind_some] | rw [Option.bind_some]
      first | rw [wg_Tk_6, Option.bind_some] | rw [Option.bind_some]
      rw [Option.bind_some]
      rw [wx_Tk_1]
      refine km_gd (fun _ => ?_)
      refine km_let ?_
      skip
      first | rw [wg_Tk_2, Option.bind_some] | rw [Option.bind_some]
      first | rw [wg_Tk_6, Option.bind_some] | rw [Option.bind_some]
      rw [Option.bind_some]
      rw [wx_Tk_2]
      refine km_gd (fun _ => ?_)
      refine km_let ?_
      skip
      first | rw [wg_Tk_3, Option.bind_some] | rw [Option.bind_some]
      first | rw [wg_Tk_6, Option.bind_some] | rw [Option.bind_some]
      first | rw [wg_Tk_1, Option.bind_some] | rw [Option.bind_some]
      first | rw [wg_Tk_6, Option.bind_some] | rw [Option.bind_some]
      rw [Option.bind_some]
      try rw [wl_Tk_1]
      refine km_bind (fun x71 => ?_)
      try rw [wo_Tk]
      try rw [lf_Tk_lettersOf]
      refine km_call (fun r72 s72 => ?_)
      first | rw [wg_Tk_2, Option.bind_some] | rw [Option.bind_some]
      first | rw [wg_Tk_6, Option.bind_some] | rw [Option.bind_some]
      rw [Option.bind_some]
      try rw [wl_Tk_2]
      refine km_bind (fun x84 => ?_)
      try rw [wo_Tk]
      try rw [lf_Tk_lettersOf]
      refine km_call (fun r85 s85 => ?_)
      rw [Option.bind_some]
      rw [wx_Tk_3]
      refine km_gd (fun _ => ?_)
      refine km_let ?_
      skip
      first | rw [wg_Tk_6, Option.bind_some] | rw [Option.bind_some]
      try rw [wo_Tk]
      try rw [lf_Tk_doMerge]
      refine km_call (fun r95 s95 => ?_)
      first | rw [wg_Tk_6, Option.bind_some] | rw [Option.bind_some]
      rw [wp_Tk_6, Option.bind_some]
      refine km_let ?_
      first | rw [wg_Tk_6, Option.bind_some] | rw [Option.bind_some]
      rfl
    · rfl
  · rfl
theorem lf_Tk_learnMerge (o : Nat) (M : mv_M) (N : Nat) (σ : kS) : jf_Tk_learnMerge N (wr_Tk o M σ) o = (kf_Tk_learnMerge N σ).map (wq_Tk o M) := lb_Tk_learnMerge_0 o M N σ
/-! ===== PlainLearner$Tokens.describeMerge(II)I ===== -/
def kb_Tk_describeMerge_12 (N : Nat) (σ : kS) : Option (Int32 × kS) :=
  some ((-1), σ)
def kb_Tk_describeMerge_0 (N : Nat) (σ : kS) (v1 : Int32) (v2 : Int32) : Option (Int32 × kS) :=
  if v1 < 0 then (kb_Tk_describeMerge_12 N σ) else
  if v1 < (σ.1 6) then (if v2 = 0 then (Option.bind (mj_tab (σ.2.2.1 1) 60 v1) fun x45 =>
  some (x45, σ)) else
  if v2 = 1 then (Option.bind (mj_tab (σ.2.2.1 2) 60 v1) fun x52 =>
  some (x52, σ)) else
  if v2 = 2 then (Option.bind (mj_tab (σ.2.2.1 3) 60 v1) fun x59 =>
  some (x59, σ)) else
  some ((-1), σ)) else
  kb_Tk_describeMerge_12 N σ
def kf_Tk_describeMerge (N : Nat) (σ : kS) (v1 : Int32) (v2 : Int32) : Option (Int32 × kS) := kb_Tk_describeMerge_0 N σ v1 v2
set_option maxHeartbeats 4000000 in
theorem lb_Tk_describeMerge_12 (o : Nat) (M : mv_M) (N : Nat)  (σ : kS) : jb_Tk_describeMerge_12 N (wr_Tk o M σ) = (kb_Tk_describeMerge_12 N σ).map (wq_Tk o M) := by
  unfold jb_Tk_describeMerge_12 kb_Tk_describeMerge_12
  rfl
set_option maxHeartbeats 4000000 in
theorem lb_Tk_describeMerge_0 (o : Nat) (M : mv_M) (N : Nat)  (σ : kS) (v1 : Int32) (v2 : Int32) : jb_Tk_describeMerge_0 N (wr_Tk o M σ) o v1 v2 = (kb_Tk_describeMerge_0 N σ v1 v2).map (wq_Tk o M) := by
  unfold jb_Tk_describeMerge_0 kb_Tk_describeMerge_0
  refine km_ite (fun _ => ?_) (fun _ => ?_)
  · exact lb_Tk_describeMerge_12 o M N _
  · first | rw [wg_Tk_6, Option.bind_some] | rw [Option.bind_some]
    refine km_ite (fun _ => ?_) (fun _ => ?_)
    · refine km_ite (fun _ => ?_) (fun _ => ?_)
      · first | rw [wg_Tk_1, Option.bind_some] | rw [Option.bind_some]
        rw [Option.bind_some]
        try rw [wl_Tk_1]
        refine km_bind (fun x45 => ?_)
        rfl
      refine km_ite (fun _ => ?_) (fun _ => ?_)
      · first | rw [wg_Tk_2, Option.bind_some] | rw [Option.bind_some]
        rw [Option.bind_some]
        try rw [wl_Tk_2]
        refine km_bind (fun x52 => ?_)
        rfl
      refine km_ite (fun _ => ?_) (fun _ => ?_)
      · first | rw [wg_Tk_3, Option.bind_some] | rw [Option.bind_some]
        rw [Option.bind_some]
        try rw [wl_Tk_3]
        refine km_bind (fun x59 => ?_)
        rfl
      rfl
    · exact lb_Tk_describeMerge_12 o M N _
theorem lf_Tk_describeMerge (o : Nat) (M : mv_M) (N : Nat) (σ : kS) (v1 : Int32) (v2 : Int32) : jf_Tk_describeMerge N (wr_Tk o M σ) o v1 v2 = (kf_Tk_describeMerge N σ v1 v2).map (wq_Tk o M) := lb_Tk_describeMerge_0 o M N σ v1 v2
/-! ===== PlainLearner$Tokens.doAllMerges()I ===== -/
def kb_Tk_doAllMerges_2 (N : Nat) : Nat → kS → Int32 → Option (Int32 × kS)
  | 0, _, _ => none
  | n + 1, σ, v1 =>
    if (σ.1 6) ≤ v1 then (some ((σ.1 5), σ)) else
    kk_call (kf_Tk_doMerge N σ v1) fun r12 s12 =>
    kb_Tk_doAllMerges_2 N n s12 (v1 + 1)
def kb_Tk_doAllMerges_0 (N : Nat) (σ : kS) : Option (Int32 × kS) :=
  kb_Tk_doAllMerges_2 N N σ 0
def kf_Tk_doAllMerges (N : Nat) (σ : kS) : Option (Int32 × kS) := kb_Tk_doAllMerges_0 N σ
set_option maxHeartbeats 4000000 in
theorem lb_Tk_doAllMerges_2 (o : Nat) (M : mv_M) (N : Nat) : ∀ (n : Nat) (σ : kS) (v1 : Int32), jb_Tk_doAllMerges_2 N n (wr_Tk o M σ) o v1 = (kb_Tk_doAllMerges_2 N n σ v1).map (wq_Tk o M) := by
  intro n
  induction n with
  | zero => intros; rfl
  | succ n ih =>
    intro σ v1
    rw [jb_Tk_doAllMerges_2, kb_Tk_doAllMerges_2]
    first | rw [wg_Tk_6, Option.bind_some] | rw [Option.bind_some]
    refine km_ite (fun _ => ?_) (fun _ => ?_)
    · first | rw [wg_Tk_5, Option.bind_some] | rw [Option.bind_some]
      rfl
    · try rw [wo_Tk]
      try rw [lf_Tk_doMerge]
      refine km_call (fun r12 s12 => ?_)
      exact ih _ _
set_option maxHeartbeats 4000000 in
theorem lb_Tk_doAllMerges_0 (o : Nat) (M : mv_M) (N : Nat)  (σ : kS) : jb_Tk_doAllMerges_0 N (wr_Tk o M σ) o = (kb_Tk_doAllMerges_0 N σ).map (wq_Tk o M) := by
  unfold jb_Tk_doAllMerges_0 kb_Tk_doAllMerges_0
  exact lb_Tk_doAllMerges_2 o M N N _ _
theorem lf_Tk_doAllMerges (o : Nat) (M : mv_M) (N : Nat) (σ : kS) : jf_Tk_doAllMerges N (wr_Tk o M σ) o = (kf_Tk_doAllMerges N σ).map (wq_Tk o M) := lb_Tk_doAllMerges_0 o M N σ
/-! ===== PlainLearner$Tokens.tokenAt(I)I ===== -/
def kb_Tk_tokenAt_23 (N : Nat) (σ : kS) (s0 : Int32) : Option (Int32 × kS) :=
  some (s0, σ)
def kb_Tk_tokenAt_12 (N : Nat) (σ : kS) : Option (Int32 × kS) :=
  kb_Tk_tokenAt_23 N σ (-2)
def kb_Tk_tokenAt_0 (N : Nat) (σ : kS) (v1 : Int32) : Option (Int32 × kS) :=
  if v1 < 0 then (kb_Tk_tokenAt_12 N σ) else
  if v1 < (σ.1 5) then (Option.bind (mj_tab (σ.2.2.1 0) 200 v1) fun x22 =>
  kb_Tk_tokenAt_23 N σ x22) else
  kb_Tk_tokenAt_12 N σ
def kf_Tk_tokenAt (N : Nat) (σ : kS) (v1 : Int32) : Option (Int32 × kS) := kb_Tk_tokenAt_0 N σ v1
set_option maxHeartbeats 4000000 in
theorem lb_Tk_tokenAt_23 (o : Nat) (M : mv_M) (N : Nat)  (σ : kS) (s0 : Int32) : jb_Tk_tokenAt_23 N (wr_Tk o M σ) s0 = (kb_Tk_tokenAt_23 N σ s0).map (wq_Tk o M) := by
  unfold jb_Tk_tokenAt_23 kb_Tk_tokenAt_23
  rfl
set_option maxHeartbeats 4000000 in
theorem lb_Tk_tokenAt_12 (o : Nat) (M : mv_M) (N : Nat)  (σ : kS) : jb_Tk_tokenAt_12 N (wr_Tk o M σ) = (kb_Tk_tokenAt_12 N σ).map (wq_Tk o M) := by
  unfold jb_Tk_tokenAt_12 kb_Tk_tokenAt_12
  exact lb_Tk_tokenAt_23 o M N _ _
set_option maxHeartbeats 4000000 in
theorem lb_Tk_tokenAt_0 (o : Nat) (M : mv_M) (N : Nat)  (σ : kS) (v1 : Int32) : jb_Tk_tokenAt_0 N (wr_Tk o M σ) o v1 = (kb_Tk_tokenAt_0 N σ v1).map (wq_Tk o M) := by
  unfold jb_Tk_tokenAt_0 kb_Tk_tokenAt_0
  refine km_ite (fun _ => ?_) (fun _ => ?_)
  · exact lb_Tk_tokenAt_12 o M N _
  · first | rw [wg_Tk_5, Option.bind_some] | rw [Option.bind_some]
    refine km_ite (fun _ => ?_) (fun _ => ?_)
    · first | rw [wg_Tk_0, Option.bind_some] | rw [Option.bind_some]
      rw [Option.bind_some]
      try rw [wl_Tk_0]
      refine km_bind (fun x22 => ?_)
      exact lb_Tk_tokenAt_23 o M N _ _
    · exact lb_Tk_tokenAt_12 o M N _
theorem lf_Tk_tokenAt (o : Nat) (M : mv_M) (N : Nat) (σ : kS) (v1 : Int32) : jf_Tk_tokenAt N (wr_Tk o M σ) o v1 = (kf_Tk_tokenAt N σ v1).map (wq_Tk o M) := lb_Tk_tokenAt_0 o M N σ v1
