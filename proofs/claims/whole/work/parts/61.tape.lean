/-! ===== PlainLearner$Node.isLeaf()Z ===== -/
def kb_No_isLeaf_12 (N : Nat) (ρ : tR) (τ : tS) (s0 : Int32) : Option (Int32 × tS) :=
  if s0 = 0 ∨ s0 = 1 then some (s0, τ) else none
def kb_No_isLeaf_0 (N : Nat) (ρ : tR) (τ : tS) (v0 : Nat) : Option (Int32 × tS) :=
  tk_opt (t_R ρ v0 4) (kb_No_isLeaf_12 N ρ τ 1) fun j4 =>
  kb_No_isLeaf_12 N ρ τ 0
def kf_No_isLeaf (N : Nat) (ρ : tR) (τ : tS) (v0 : Nat) : Option (Int32 × tS) := kb_No_isLeaf_0 N ρ τ v0
set_option maxHeartbeats 4000000 in
theorem lb_No_isLeaf_12 {Λ : tQ} {ρ : tR} {M : mv_M} (ok : t_ok Λ ρ M) (N : Nat) (τ : tS) (s0 : Int32) : jb_No_isLeaf_12 N (wT Λ ρ M τ) s0 = (kb_No_isLeaf_12 N ρ τ s0).map (wqT Λ ρ M) := by
  unfold jb_No_isLeaf_12 kb_No_isLeaf_12
  refine km_ite (fun _ => rfl) (fun _ => rfl)
set_option maxHeartbeats 4000000 in
theorem lb_No_isLeaf_0 {Λ : tQ} {ρ : tR} {M : mv_M} (ok : t_ok Λ ρ M) (N : Nat) (τ : tS) (v0 : Nat) (h_v0 : v0 < t_n ρ) : jb_No_isLeaf_0 N (wT Λ ρ M τ) (t_A ρ v0 0) = (kb_No_isLeaf_0 N ρ τ v0).map (wqT Λ ρ M) := by
  unfold jb_No_isLeaf_0 kb_No_isLeaf_0
  first | rw [tg_N_4 ok h_v0, Option.bind_some] | rw [Option.bind_some]
  refine km_optT (fun _ => ?_) (fun j4 e4 => ?_)
  · exact lb_No_isLeaf_12 ok N _ _
  · have b4 := (ok.2.2.2.2.2 _ h_v0 4) j4 e4
    exact lb_No_isLeaf_12 ok N _ _
theorem lf_No_isLeaf {Λ : tQ} {ρ : tR} {M : mv_M} (ok : t_ok Λ ρ M) (N : Nat) (τ : tS) (v0 : Nat) (h_v0 : v0 < t_n ρ) : jf_No_isLeaf N (wT Λ ρ M τ) (t_A ρ v0 0) = (kf_No_isLeaf N ρ τ v0).map (wqT Λ ρ M) := lb_No_isLeaf_0 ok N τ v0 h_v0
/-! ===== PlainLearner$Node.hasCell(I)Z ===== -/
def kb_No_hasCell_20 (N : Nat) (ρ : tR) (τ : tS) (s0 : Int32) : Option (Int32 × tS) :=
  if s0 = 0 ∨ s0 = 1 then some (s0, τ) else none
def kb_No_hasCell_19 (N : Nat) (ρ : tR) (τ : tS) : Option (Int32 × tS) :=
  kb_No_hasCell_20 N ρ τ 0
def kb_No_hasCell_0 (N : Nat) (ρ : tR) (τ : tS) (v0 : Nat) (v1 : Int32) : Option (Int32 × tS) :=
  if v1 < 0 then (kb_No_hasCell_19 N ρ τ) else
  if (t_H ρ v0 4) ≤ v1 then (kb_No_hasCell_19 N ρ τ) else
  kb_No_hasCell_20 N ρ τ 1
def kf_No_hasCell (N : Nat) (ρ : tR) (τ : tS) (v0 : Nat) (v1 : Int32) : Option (Int32 × tS) := kb_No_hasCell_0 N ρ τ v0 v1
set_option maxHeartbeats 4000000 in
theorem lb_No_hasCell_20 {Λ : tQ} {ρ : tR} {M : mv_M} (ok : t_ok Λ ρ M) (N : Nat) (τ : tS) (s0 : Int32) : jb_No_hasCell_20 N (wT Λ ρ M τ) s0 = (kb_No_hasCell_20 N ρ τ s0).map (wqT Λ ρ M) := by
  unfold jb_No_hasCell_20 kb_No_hasCell_20
  refine km_ite (fun _ => rfl) (fun _ => rfl)
set_option maxHeartbeats 4000000 in
theorem lb_No_hasCell_19 {Λ : tQ} {ρ : tR} {M : mv_M} (ok : t_ok Λ ρ M) (N : Nat) (τ : tS) : jb_No_hasCell_19 N (wT Λ ρ M τ) = (kb_No_hasCell_19 N ρ τ).map (wqT Λ ρ M) := by
  unfold jb_No_hasCell_19 kb_No_hasCell_19
  exact lb_No_hasCell_20 ok N _ _
set_option maxHeartbeats 4000000 in
theorem lb_No_hasCell_0 {Λ : tQ} {ρ : tR} {M : mv_M} (ok : t_ok Λ ρ M) (N : Nat) (τ : tS) (v0 : Nat) (v1 : Int32) (h_v0 : v0 < t_n ρ) : jb_No_hasCell_0 N (wT Λ ρ M τ) (t_A ρ v0 0) v1 = (kb_No_hasCell_0 N ρ τ v0 v1).map (wqT Λ ρ M) := by
  unfold jb_No_hasCell_0 kb_No_hasCell_0
  refine km_ite (fun _ => ?_) (fun _ => ?_)
  · exact lb_No_hasCell_19 ok N _
  · first | rw [tg_N_0 ok h_v0, Option.bind_some] | rw [Option.bind_some]
    rw [Option.bind_some]
    first | rw [tg_S_4 ok h_v0, Option.bind_some] | rw [Option.bind_some]
    refine km_ite (fun _ => ?_) (fun _ => ?_)
    · exact lb_No_hasCell_19 ok N _
    · exact lb_No_hasCell_20 ok N _ _
theorem lf_No_hasCell {Λ : tQ} {ρ : tR} {M : mv_M} (ok : t_ok Λ ρ M) (N : Nat) (τ : tS) (v0 : Nat) (v1 : Int32) (h_v0 : v0 < t_n ρ) : jf_No_hasCell N (wT Λ ρ M τ) (t_A ρ v0 0) v1 = (kf_No_hasCell N ρ τ v0 v1).map (wqT Λ ρ M) := lb_No_hasCell_0 ok N τ v0 v1 h_v0
/-! ===== PlainLearner$Shape.lengthAt(I)I ===== -/
def kb_Sh_lengthAt_27 (N : Nat) (ρ : tR) (τ : tS) (s0 : Int32) : Option (Int32 × tS) :=
  some (s0, τ)
def kb_Sh_lengthAt_0 (N : Nat) (ρ : tR) (τ : tS) (v0 : Nat) (v1 : Int32) : Option (Int32 × tS) :=
  if v1 = 0 then (kb_Sh_lengthAt_27 N ρ τ (t_H ρ v0 1)) else
  if v1 = 1 then (kb_Sh_lengthAt_27 N ρ τ (t_H ρ v0 2)) else
  kb_Sh_lengthAt_27 N ρ τ (t_H ρ v0 3)
def kf_Sh_lengthAt (N : Nat) (ρ : tR) (τ : tS) (v0 : Nat) (v1 : Int32) : Option (Int32 × tS) := kb_Sh_lengthAt_0 N ρ τ v0 v1
set_option maxHeartbeats 4000000 in
theorem lb_Sh_lengthAt_27 {Λ : tQ} {ρ : tR} {M : mv_M} (ok : t_ok Λ ρ M) (N : Nat) (τ : tS) (s0 : Int32) : jb_Sh_lengthAt_27 N (wT Λ ρ M τ) s0 = (kb_Sh_lengthAt_27 N ρ τ s0).map (wqT Λ ρ M) := by
  unfold jb_Sh_lengthAt_27 kb_Sh_lengthAt_27
  rfl
set_option maxHeartbeats 4000000 in
theorem lb_Sh_lengthAt_0 {Λ : tQ} {ρ : tR} {M : mv_M} (ok : t_ok Λ ρ M) (N : Nat) (τ : tS) (v0 : Nat) (v1 : Int32) (h_v0 : v0 < t_n ρ) : jb_Sh_lengthAt_0 N (wT Λ ρ M τ) (t_A ρ v0 3) v1 = (kb_Sh_lengthAt_0 N ρ τ v0 v1).map (wqT Λ ρ M) := by
  unfold jb_Sh_lengthAt_0 kb_Sh_lengthAt_0
  refine km_ite (fun _ => ?_) (fun _ => ?_)
  · first | rw [tg_S_1 ok h_v0, Option.bind_some] | rw [Option.bind_some]
    exact lb_Sh_lengthAt_27 ok N _ _
  · refine km_ite (fun _ => ?_) (fun _ => ?_)
    · first | rw [tg_S_2 ok h_v0, Option.bind_some] | rw [Option.bind_some]
      exact lb_Sh_lengthAt_27 ok N _ _
    · first | rw [tg_S_3 ok h_v0, Option.bind_some] | rw [Option.bind_some]
      exact lb_Sh_lengthAt_27 ok N _ _
theorem lf_Sh_lengthAt {Λ : tQ} {ρ : tR} {M : mv_M} (ok : t_ok Λ ρ M) (N : Nat) (τ : tS) (v0 : Nat) (v1 : Int32) (h_v0 : v0 < t_n ρ) : jf_Sh_lengthAt N (wT Λ ρ M τ) (t_A ρ v0 3) v1 = (kf_Sh_lengthAt N ρ τ v0 v1).map (wqT Λ ρ M) := lb_Sh_lengthAt_0 ok N τ v0 v1 h_v0
/-! ===== PlainLearner$Shape.placeOf(I)I ===== -/
def kb_Sh_placeOf_0 (N : Nat) (ρ : tR) (τ : tS) (v0 : Nat) (v1 : Int32) : Option (Int32 × tS) :=
  some (((3 - (t_H ρ v0 0)) + v1), τ)
def kf_Sh_placeOf (N : Nat) (ρ : tR) (τ : tS) (v0 : Nat) (v1 : Int32) : Option (Int32 × tS) := kb_Sh_placeOf_0 N ρ τ v0 v1
set_option maxHeartbeats 4000000 in
theorem lb_Sh_placeOf_0 {Λ : tQ} {ρ : tR} {M : mv_M} (ok : t_ok Λ ρ M) (N : Nat) (τ : tS) (v0 : Nat) (v1 : Int32) (h_v0 : v0 < t_n ρ) : jb_Sh_placeOf_0 N (wT Λ ρ M τ) (t_A ρ v0 3) v1 = (kb_Sh_placeOf_0 N ρ τ v0 v1).map (wqT Λ ρ M) := by
  unfold jb_Sh_placeOf_0 kb_Sh_placeOf_0
  first | rw [tg_S_0 ok h_v0, Option.bind_some] | rw [Option.bind_some]
  rfl
theorem lf_Sh_placeOf {Λ : tQ} {ρ : tR} {M : mv_M} (ok : t_ok Λ ρ M) (N : Nat) (τ : tS) (v0 : Nat) (v1 : Int32) (h_v0 : v0 < t_n ρ) : jf_Sh_placeOf N (wT Λ ρ M τ) (t_A ρ v0 3) v1 = (kf_Sh_placeOf N ρ τ v0 v1).map (wqT Λ ρ M) := lb_Sh_placeOf_0 ok N τ v0 v1 h_v0
/-! ===== PlainLearner$Node.describe(I)I ===== -/
def kb_No_describe_88 (N : Nat) (ρ : tR) (τ : tS) (s0 : Int32) : Option (Int32 × tS) :=
  some (s0, τ)
def kb_No_describe_0 (N : Nat) (ρ : tR) (τ : tS) (v0 : Nat) (v1 : Int32) : Option (Int32 × tS) :=
  if v1 = 0 then (some ((t_H ρ v0 0), τ)) else
  if v1 = 1 then (if v1 ≤ (t_H ρ v0 0) then (kk_call (kf_Sh_placeOf N ρ τ v0 (v1 - 1)) fun r82 s82 =>
  kk_call (kf_Sh_lengthAt N ρ s82 v0 r82) fun r85 s85 =>
  kb_No_describe_88 N ρ s85 r85) else
  kb_No_describe_88 N ρ τ 0) else
  if v1 = 2 then (if v1 ≤ (t_H ρ v0 0) then (kk_call (kf_Sh_placeOf N ρ τ v0 (v1 - 1)) fun r82 s82 =>
  kk_call (kf_Sh_lengthAt N ρ s82 v0 r82) fun r85 s85 =>
  kb_No_describe_88 N ρ s85 r85) else
  kb_No_describe_88 N ρ τ 0) else
  if v1 = 3 then (if v1 ≤ (t_H ρ v0 0) then (kk_call (kf_Sh_placeOf N ρ τ v0 (v1 - 1)) fun r82 s82 =>
  kk_call (kf_Sh_lengthAt N ρ s82 v0 r82) fun r85 s85 =>
  kb_No_describe_88 N ρ s85 r85) else
  kb_No_describe_88 N ρ τ 0) else
  if v1 = 4 then (some ((t_H ρ v0 4), τ)) else
  if v1 = 5 then (some ((τ.2.2.1 v0 1), τ)) else
  if v1 = 6 then (some ((τ.2.2.1 v0 2), τ)) else
  if v1 = 7 then (some ((τ.2.2.1 v0 3), τ)) else
  some ((-1), τ)
def kf_No_describe (N : Nat) (ρ : tR) (τ : tS) (v0 : Nat) (v1 : Int32) : Option (Int32 × tS) := kb_No_describe_0 N ρ τ v0 v1
set_option maxHeartbeats 4000000 in
theorem lb_No_describe_88 {Λ : tQ} {ρ : tR} {M : mv_M} (ok : t_ok Λ ρ M) (N : Nat) (τ : tS) (s0 : Int32) : jb_No_describe_88 N (wT Λ ρ M τ) s0 = (kb_No_describe_88 N ρ τ s0).map (wqT Λ ρ M) := by
  unfold jb_No_describe_88 kb_No_describe_88
  rfl
set_option maxHeartbeats 4000000 in
theorem lb_No_describe_0 {Λ : tQ} {ρ : tR} {M : mv_M} (ok : t_ok Λ ρ M) (N : Nat) (τ : tS) (v0 : Nat) (v1 : Int32) (h_v0 : v0 < t_n ρ) : jb_No_describe_0 N (wT Λ ρ M τ) (t_A ρ v0 0) v1 = (kb_No_describe_0 N ρ τ v0 v1).map (wqT Λ ρ M) := by
  unfold jb_No_describe_0 kb_No_describe_0
  refine km_ite (fun _ => ?_) (fun _ => ?_)
  · first | rw [tg_N_0 ok h_v0, Option.bind_some] | rw [Option.bind_some]
    rw [Option.bind_some]
    first | rw [tg_S_0 ok h_v0, Option.bind_some] | rw [Option.bind_some]
    rfl
  refine km_ite (fun _ => ?_) (fun _ => ?_)
  · first | rw [tg_N_0 ok h_v0, Option.bind_some] | rw [Option.bind_some]
    rw [Option.bind_some]
    first | rw [tg_S_0 ok h_v0, Option.bind_some] | rw [Option.bind_some]
    refine km_ite (fun _ => ?_) (fun _ => ?_)
    · first | rw [tg_N_0 ok h_v0, Option.bind_some] | rw [Option.bind_some]
      first | rw [tg_N_0 ok h_v0, Option.bind_some] | rw [Option.bind_some]
      rw [Option.bind_some]
      try rw [to_S ok h_v0]
      first | rw [lf_Sh_placeOf ok N _ _ _ h_v0] | erw [lf_Sh_placeOf ok N _ _ _ h_v0]
      refine km_call (fun r82 s82 => ?_)
      rw [Option.bind_some]
      try rw [to_S ok h_v0]
      first | rw [lf_Sh_lengthAt ok N _ _ _ h_v0] | erw [lf_Sh_lengthAt ok N _ _ _ h_v0]
      refine km_call (fun r85 s85 => ?_)
      exact lb_No_describe_88 ok N _ _
    · exact lb_No_describe_88 ok N _ _
  refine km_ite (fun _ => ?_) (fun _ => ?_)
  · first | rw [tg_N_0 ok h_v0, Option.bind_some] | rw [Option.bind_some]
    rw [Option.bind_some]
    first | rw [tg_S_0 ok h_v0, Option.bind_some] | rw [Option.bind_some]
    refine km_ite (fun _ => ?_) (fun _ => ?_)
    · first | rw [tg_N_0 ok h_v0, Option.bind_some] | rw [Option.bind_some]
      first | rw [tg_N_0 ok h_v0, Option.bind_some] | rw [Option.bind_some]
      rw [Option.bind_some]
      try rw [to_S ok h_v0]
      first | rw [lf_Sh_placeOf ok N _ _ _ h_v0] | erw [lf_Sh_placeOf ok N _ _ _ h_v0]
      refine km_call (fun r82 s82 => ?_)
      rw [Option.bind_some]
      try rw [to_S ok h_v0]
      first | rw [lf_Sh_lengthAt ok N _ _ _ h_v0] | erw [lf_Sh_lengthAt ok N _ _ _ h_v0]
      refine km_call (fun r85 s85 => ?_)
      exact lb_No_describe_88 ok N _ _
    · exact lb_No_describe_88 ok N _ _
  refine km_ite (fun _ => ?_) (fun _ => ?_)
  · first | rw [tg_N_0 ok h_v0, Option.bind_some] | rw [Option.bind_some]
    rw [Option.bind_some]
    first | rw [tg_S_0 ok h_v0, Option.bind_some] | rw [Option.bind_some]
    refine km_ite (fun _ => ?_) (fun _ => ?_)
    · first | rw [tg_N_0 ok h_v0, Option.bind_some] | rw [Option.bind_some]
      first | rw [tg_N_0 ok h_v0, Option.bind_some] | rw [Option.bind_some]
      rw [Option.bind_some]
      try rw [to_S ok h_v0]
      first | rw [lf_Sh_placeOf ok N _ _ _ h_v0] | erw [lf_Sh_placeOf ok N _ _ _ h_v0]
      refine km_call (fun r82 s82 => ?_)
      rw [Option.bind_some]
      try rw [to_S ok h_v0]
      first | rw [lf_Sh_lengthAt ok N _ _ _ h_v0] | erw [lf_Sh_lengthAt ok N _ _ _ h_v0]
      refine km_call (fun r85 s85 => ?_)
      exact lb_No_describe_88 ok N _ _
    · exact lb_No_describe_88 ok N _ _
  refine km_ite (fun _ => ?_) (fun _ => ?_)
  · first | rw [tg_N_0 ok h_v0, Option.bind_some] | rw [Option.bind_some]
    rw [Option.bind_some]
    first | rw [tg_S_4 ok h_v0, Option.bind_some] | rw [Option.bind_some]
    rfl
  refine km_ite (fun _ => ?_) (fun _ => ?_)
  · first | rw [tg_N_1 ok h_v0, Option.bind_some] | rw [Option.bind_some]
    rfl
  refine km_ite (fun _ => ?_) (fun _ => ?_)
  · first | rw [tg_N_2 ok h_v0, Option.bind_some] | rw [Option.bind_some]
    rfl
  refine km_ite (fun _ => ?_) (fun _ => ?_)
  · first | rw [tg_N_3 ok h_v0, Option.bind_some] | rw [Option.bind_some]
    rfl
  rfl
theorem lf_No_describe {Λ : tQ} {ρ : tR} {M : mv_M} (ok : t_ok Λ ρ M) (N : Nat) (τ : tS) (v0 : Nat) (v1 : Int32) (h_v0 : v0 < t_n ρ) : jf_No_describe N (wT Λ ρ M τ) (t_A ρ v0 0) v1 = (kf_No_describe N ρ τ v0 v1).map (wqT Λ ρ M) := lb_No_describe_0 ok N τ v0 v1 h_v0
/-! ===== PlainLearner$View.at(III)I ===== -/
def kb_Vw_at_0 (N : Nat) (ρ : tR) (τ : tS) (v0 : (Nat → Int32)) (v1 : Int32) (v2 : Int32) (v3 : Int32) : Option (Int32 × tS) :=
  some (((((v0 0) + (v1 * (v0 1))) + (v2 * (v0 2))) + (v3 * (v0 3))), τ)
def kf_Vw_at (N : Nat) (ρ : tR) (τ : tS) (v0 : (Nat → Int32)) (v1 : Int32) (v2 : Int32) (v3 : Int32) : Option (Int32 × tS) := kb_Vw_at_0 N ρ τ v0 v1 v2 v3
set_option maxHeartbeats 4000000 in
theorem lb_Vw_at_0 {Λ : tQ} {ρ : tR} {M : mv_M} (ok : t_ok Λ ρ M) {iw fw : Nat} {v0 : Nat → Int32} (hiw : iw < t_n ρ) (hvw : t_W ρ iw fw = some v0) (N : Nat) (τ : tS) (v1 : Int32) (v2 : Int32) (v3 : Int32) : jb_Vw_at_0 N (wT Λ ρ M τ) (t_A ρ iw fw) v1 v2 v3 = (kb_Vw_at_0 N ρ τ v0 v1 v2 v3).map (wqT Λ ρ M) := by
  unfold jb_Vw_at_0 kb_Vw_at_0
  first | rw [tg_V_0 ok hiw hvw, Option.bind_some] | rw [Option.bind_some]
  first | rw [tg_V_1 ok hiw hvw, Option.bind_some] | rw [Option.bind_some]
  first | rw [tg_V_2 ok hiw hvw, Option.bind_some] | rw [Option.bind_some]
  first | rw [tg_V_3 ok hiw hvw, Option.bind_some] | rw [Option.bind_some]
  rfl
theorem lf_Vw_at {Λ : tQ} {ρ : tR} {M : mv_M} (ok : t_ok Λ ρ M) {iw fw : Nat} {v0 : Nat → Int32} (hiw : iw < t_n ρ) (hvw : t_W ρ iw fw = some v0) (N : Nat) (τ : tS) (v1 : Int32) (v2 : Int32) (v3 : Int32) : jf_Vw_at N (wT Λ ρ M τ) (t_A ρ iw fw) v1 v2 v3 = (kf_Vw_at N ρ τ v0 v1 v2 v3).map (wqT Λ ρ M) := lb_Vw_at_0 ok hiw hvw N τ v1 v2 v3
/-! ===== PlainLearner$Node.greatestOfRow(I)I ===== -/
def kb_No_greatestOfRow_70 (N : Nat) (ρ : tR) (c4 : tS → Nat → Int32 → Int32 → Int32 → Option (Int32 × tS)) (τ : tS) (v0 : Nat) (v1 : Int32) (v2 : Int32) (v3 : Int32) : Option (Int32 × tS) :=
  c4 τ v0 v1 v2 (v3 + 1)
def kb_No_greatestOfRow_4 (N : Nat) (ρ : tR) : Nat → tS → Nat → Int32 → Int32 → Int32 → Option (Int32 × tS)
  | 0, _, _, _, _, _ => none
  | n + 1, τ, v0, v1, v2, v3 =>
    if (τ.2.2.1 v0 8) ≤ v3 then (some (v2, τ)) else
    Option.bind (t_W ρ v0 6) fun w18 =>
    Option.bind (t_R ρ v0 4) fun j29 =>
    Option.bind (mj_tabL (τ.2.2.2.2 j29 9) (t_len ρ j29) (v1 + (v3 * (w18 4)))) fun x34 =>
    if (lg_cmp x34 0) = 0 then (some ((-1), τ)) else
    Option.bind (t_R ρ v0 4) fun j46 =>
    Option.bind (mj_tabL (τ.2.2.2.2 j46 9) (t_len ρ j46) (v1 + (v3 * (w18 4)))) fun x51 =>
    Option.bind (t_R ρ v0 4) fun j56 =>
    Option.bind (mj_tabL (τ.2.2.2.2 j56 9) (t_len ρ j56) v2) fun x60 =>
    Option.bind (kf_Fr_compare N x51 x60) fun r61 =>
    if r61 ≤ 0 then (kb_No_greatestOfRow_70 N ρ (kb_No_greatestOfRow_4 N ρ n) τ v0 v1 v2 v3) else
    kb_No_greatestOfRow_70 N ρ (kb_No_greatestOfRow_4 N ρ n) τ v0 v1 (v1 + (v3 * (w18 4))) v3
def kb_No_greatestOfRow_0 (N : Nat) (ρ : tR) (τ : tS) (v0 : Nat) (v1 : Int32) : Option (Int32 × tS) :=
  kb_No_greatestOfRow_4 N ρ N τ v0 v1 v1 0
def kf_No_greatestOfRow (N : Nat) (ρ : tR) (τ : tS) (v0 : Nat) (v1 : Int32) : Option (Int32 × tS) := kb_No_greatestOfRow_0 N ρ τ v0 v1
set_option maxHeartbeats 4000000 in
theorem lb_No_greatestOfRow_70 {Λ : tQ} {ρ : tR} {M : mv_M} (ok : t_ok Λ ρ M) (N : Nat) (k4 : mv_M → Nat → Int32 → Int32 → Int32 → Option (Int32 × mv_M)) (c4 : tS → Nat → Int32 → Int32 → Int32 → Option (Int32 × tS)) (hc4 : ∀ (τ : tS) (v0 : Nat) (v1 : Int32) (v2 : Int32) (v3 : Int32) (h_v0 : v0 < t_n ρ), k4 (wT Λ ρ M τ) (t_A ρ v0 0) v1 v2 v3 = (c4 τ v0 v1 v2 v3).map (wqT Λ ρ M)) (τ : tS) (v0 : Nat) (v1 : Int32) (v2 : Int32) (v3 : Int32) (h_v0 : v0 < t_n ρ) : jb_No_greatestOfRow_70 N k4 (wT Λ ρ M τ) (t_A ρ v0 0) v1 v2 v3 = (kb_No_greatestOfRow_70 N ρ c4 τ v0 v1 v2 v3).map (wqT Λ ρ M) := by
  unfold jb_No_greatestOfRow_70 kb_No_greatestOfRow_70
  exact hc4 _ _ _ _ _ h_v0
set_option maxHeartbeats 4000000 in
theorem lb_No_greatestOfRow_4 {Λ : tQ} {ρ : tR} {M : mv_M} (ok : t_ok Λ ρ M) (N : Nat) : ∀ (n : Nat) (τ : tS) (v0 : Nat) (v1 : Int32) (v2 : Int32) (v3 : Int32) (h_v0 : v0 < t_n ρ), jb_No_greatestOfRow_4 N n (wT Λ ρ M τ) (t_A ρ v0 0) v1 v2 v3 = (kb_No_greatestOfRow_4 N ρ n τ v0 v1 v2 v3).map (wqT Λ ρ M) := by
  intro n
  induction n with
  | zero => intros; rfl
  | succ n ih =>
    intro τ v0 v1 v2 v3 h_v0
    rw [jb_No_greatestOfRow_4, kb_No_greatestOfRow_4]
    first | rw [tg_N_8 ok h_v0, Option.bind_some] | rw [Option.bind_some]
    refine km_ite (fun _ => ?_) (fun _ => ?_)
    · rfl
    · first | rw [tg_N_6 ok h_v0, Option.bind_some] | rw [Option.bind_some]
      refine km_bindR (fun w18 e18 => ?_)
      first | rw [tg_V_4 ok h_v0 e18, Option.bind_some] | rw [Option.bind_some]
      first | rw [tg_N_4 ok h_v0, Option.bind_some] | rw [Option.bind_some]
      refine km_bindR (fun j29 e29 => ?_)
      have b29 := (ok.2.2.2.2.2 _ h_v0 4) j29 e29
      first | rw [tg_N_9 ok b29, Option.bind_some] | rw [Option.bind_some]
      rw [Option.bind_some]
      try rw [tl_9 ok b29]
      refine km_bind (fun x34 => ?_)
      refine km_ite (fun _ => ?_) (fun _ => ?_)
      · rfl
      · first | rw [tg_N_4 ok h_v0, Option.bind_some] | rw [Option.bind_some]
        refine km_bindR (fun j46 e46 => ?_)
        have b46 := (ok.2.2.2.2.2 _ h_v0 4) j46 e46
        first | rw [tg_N_9 ok b46, Option.bind_some] | rw [Option.bind_some]
        rw [Option.bind_some]
        try rw [tl_9 ok b46]
        refine km_bind (fun x51 => ?_)
        first | rw [tg_N_4 ok h_v0, Option.bind_some] | rw [Option.bind_some]
        refine km_bindR (fun j56 e56 => ?_)
        have b56 := (ok.2.2.2.2.2 _ h_v0 4) j56 e56
        first | rw [tg_N_9 ok b56, Option.bind_some] | rw [Option.bind_some]
        rw [Option.bind_some]
        try rw [tl_9 ok b56]
        refine km_bind (fun x60 => ?_)
        try rw [lf_Fr_compare]
        refine km_callP (fun r61 => ?_)
        refine km_ite (fun _ => ?_) (fun _ => ?_)
        · exact lb_No_greatestOfRow_70 ok N _ _ ih _ _ _ _ _ h_v0
        · exact lb_No_greatestOfRow_70 ok N _ _ ih _ _ _ _ _ h_v0
set_option maxHeartbeats 4000000 in
theorem lb_No_greatestOfRow_0 {Λ : tQ} {ρ : tR} {M : mv_M} (ok : t_ok Λ ρ M) (N : Nat) (τ : tS) (v0 : Nat) (v1 : Int32) (h_v0 : v0 < t_n ρ) : jb_No_greatestOfRow_0 N (wT Λ ρ M τ) (t_A ρ v0 0) v1 = (kb_No_greatestOfRow_0 N ρ τ v0 v1).map (wqT Λ ρ M) := by
  unfold jb_No_greatestOfRow_0 kb_No_greatestOfRow_0
  exact lb_No_greatestOfRow_4 ok N N _ _ _ _ _ h_v0
theorem lf_No_greatestOfRow {Λ : tQ} {ρ : tR} {M : mv_M} (ok : t_ok Λ ρ M) (N : Nat) (τ : tS) (v0 : Nat) (v1 : Int32) (h_v0 : v0 < t_n ρ) : jf_No_greatestOfRow N (wT Λ ρ M τ) (t_A ρ v0 0) v1 = (kf_No_greatestOfRow N ρ τ v0 v1).map (wqT Λ ρ M) := lb_No_greatestOfRow_0 ok N τ v0 v1 h_v0
/-! ===== PlainLearner$Node.ownOfFirst(III)J ===== -/
def kb_No_ownOfFirst_190 (N : Nat) (ρ : tR) (τ : tS) (s0 : Int64) : Option (Int64 × tS) :=
  some (s0, τ)
def kb_No_ownOfFirst_169 (N : Nat) (ρ : tR) (τ : tS) (s0 : Int64) : Option (Int64 × tS) :=
  some (s0, τ)
def kb_No_ownOfFirst_140 (N : Nat) (ρ : tR) (τ : tS) (s0 : Int64) : Option (Int64 × tS) :=
  some (s0, τ)
def kb_No_ownOfFirst_31 (N : Nat) (ρ : tR) (τ : tS) (v0 : Nat) (v1 : Int32) (v3 : Int32) (v4 : Int64) (s0 : Int64) : Option (Int64 × tS) :=
  if (τ.2.2.1 v0 1) = 2 then (some (s0, τ)) else
  if (τ.2.2.1 v0 1) = 3 then (Option.bind (kf_Fr_inverse N s0) fun r105 =>
  some (r105, τ)) else
  if (τ.2.2.1 v0 1) = 4 then (some (s0, τ)) else
  if (τ.2.2.1 v0 1) = 5 then (some (4294967297, τ)) else
  if (τ.2.2.1 v0 1) = 6 then (Option.bind (kf_Fr_whole N (τ.2.2.1 v0 8)) fun r113 =>
  Option.bind (kf_Fr_inverse N r113) fun r116 =>
  some (r116, τ)) else
  if (τ.2.2.1 v0 1) = 7 then (if 0 ≤ v3 then (if v1 = v3 then (kb_No_ownOfFirst_140 N ρ τ 4294967297) else
  kb_No_ownOfFirst_140 N ρ τ 1) else
  kb_No_ownOfFirst_140 N ρ τ 0) else
  if (τ.2.2.1 v0 1) = 8 then (some (4294967297, τ)) else
  if (τ.2.2.1 v0 1) = 9 then (some (4294967297, τ)) else
  if (τ.2.2.1 v0 1) = 10 then (some ((-4294967295), τ)) else
  if (τ.2.2.1 v0 1) = 11 then (if (lg_cmp v4 0) = 0 then (kb_No_ownOfFirst_169 N ρ τ v4) else
  Option.bind (kf_Fr_sign N v4) fun r160 =>
  Option.bind (kf_Jm_max N 0 r160) fun r163 =>
  Option.bind (kf_Fr_whole N r163) fun r166 =>
  kb_No_ownOfFirst_169 N ρ τ r166) else
  if (τ.2.2.1 v0 1) = 12 then (if (lg_cmp v4 0) = 0 then (kb_No_ownOfFirst_190 N ρ τ v4) else
  Option.bind (kf_Fr_sign N v4) fun r184 =>
  Option.bind (kf_Fr_whole N r184) fun r187 =>
  kb_No_ownOfFirst_190 N ρ τ r187) else
  if (τ.2.2.1 v0 1) = 13 then (Option.bind (kf_Fr_add N v4 v4) fun r195 =>
  some (r195, τ)) else
  some (4294967297, τ)
def kb_No_ownOfFirst_0 (N : Nat) (ρ : tR) (τ : tS) (v0 : Nat) (v1 : Int32) (v2 : Int32) (v3 : Int32) : Option (Int64 × tS) :=
  Option.bind (t_R ρ v0 4) fun j4 =>
  Option.bind (mj_tabL (τ.2.2.2.2 j4 9) (t_len ρ j4) v1) fun x8 =>
  tk_opt (t_R ρ v0 5) (kb_No_ownOfFirst_31 N ρ τ v0 v1 v3 x8 0) fun j15 =>
  Option.bind (t_R ρ v0 5) fun j26 =>
  Option.bind (mj_tabL (τ.2.2.2.2 j26 9) (t_len ρ j26) v2) fun x30 =>
  kb_No_ownOfFirst_31 N ρ τ v0 v1 v3 x8 x30
def kf_No_ownOfFirst (N : Nat) (ρ : tR) (τ : tS) (v0 : Nat) (v1 : Int32) (v2 : Int32) (v3 : Int32) : Option (Int64 × tS) := kb_No_ownOfFirst_0 N ρ τ v0 v1 v2 v3
set_option maxHeartbeats 4000000 in
theorem lb_No_ownOfFirst_190 {Λ : tQ} {ρ : tR} {M : mv_M} (ok : t_ok Λ ρ M) (N : Nat) (τ : tS) (s0 : Int64) : jb_No_ownOfFirst_190 N (wT Λ ρ M τ) s0 = (kb_No_ownOfFirst_190 N ρ τ s0).map (wqT Λ ρ M) := by
  unfold jb_No_ownOfFirst_190 kb_No_ownOfFirst_190
  rfl
set_option maxHeartbeats 4000000 in
theorem lb_No_ownOfFirst_169 {Λ : tQ} {ρ : tR} {M : mv_M} (ok : t_ok Λ ρ M) (N : Nat) (τ : tS) (s0 : Int64) : jb_No_ownOfFirst_169 N (wT Λ ρ M τ) s0 = (kb_No_ownOfFirst_169 N ρ τ s0).map (wqT Λ ρ M) := by
  unfold jb_No_ownOfFirst_169 kb_No_ownOfFirst_169
  rfl
set_option maxHeartbeats 4000000 in
theorem lb_No_ownOfFirst_140 {Λ : tQ} {ρ : tR} {M : mv_M} (ok : t_ok Λ ρ M) (N : Nat) (τ : tS) (s0 : Int64) : jb_No_ownOfFirst_140 N (wT Λ ρ M τ) s0 = (kb_No_ownOfFirst_140 N ρ τ s0).map (wqT Λ ρ M) := by
  unfold jb_No_ownOfFirst_140 kb_No_ownOfFirst_140
  rfl
set_option maxHeartbeats 4000000 in
theorem lb_No_ownOfFirst_31 {Λ : tQ} {ρ : tR} {M : mv_M} (ok : t_ok Λ ρ M) (N : Nat) (τ : tS) (v0 : Nat) (v1 : Int32) (v3 : Int32) (v4 : Int64) (s0 : Int64) (h_v0 : v0 < t_n ρ) : jb_No_ownOfFirst_31 N (wT Λ ρ M τ) (t_A ρ v0 0) v1 v3 v4 s0 = (kb_No_ownOfFirst_31 N ρ τ v0 v1 v3 v4 s0).map (wqT Λ ρ M) := by
  unfold jb_No_ownOfFirst_31 kb_No_ownOfFirst_31
  first | rw [tg_N_1 ok h_v0, Option.bind_some] | rw [Option.bind_some]
  refine km_ite (fun _ => ?_) (fun _ => ?_)
  · rfl
  refine km_ite (fun _ => ?_) (fun _ => ?_)
  · try rw [lf_Fr_inverse]
    refine km_callP (fun r105 => ?_)
    rfl
  refine km_ite (fun _ => ?_) (fun _ => ?_)
  · rfl
  refine km_ite (fun _ => ?_) (fun _ => ?_)
  · rfl
  refine km_ite (fun _ => ?_) (fun _ => ?_)
  · first | rw [tg_N_8 ok h_v0, Option.bind_some] | rw [Option.bind_some]
    try rw [lf_Fr_whole]
    refine km_callP (fun r113 => ?_)
    try rw [lf_Fr_inverse]
    refine km_callP (fun r116 => ?_)
    rfl
  refine km_ite (fun _ => ?_) (fun _ => ?_)
  · refine km_ite (fun _ => ?_) (fun _ => ?_)
    · refine km_ite (fun _ => ?_) (fun _ => ?_)
      · exact lb_No_ownOfFirst_140 ok N _ _
      · exact lb_No_ownOfFirst_140 ok N _ _
    · exact lb_No_ownOfFirst_140 ok N _ _
  refine km_ite (fun _ => ?_) (fun _ => ?_)
  · rfl
  refine km_ite (fun _ => ?_) (fun _ => ?_)
  · rfl
  refine km_ite (fun _ => ?_) (fun _ => ?_)
  · rfl
  refine km_ite (fun _ => ?_) (fun _ => ?_)
  · refine km_ite (fun _ => ?_) (fun _ => ?_)
    · exact lb_No_ownOfFirst_169 ok N _ _
    · try rw [lf_Fr_sign]
      refine km_callP (fun r160 => ?_)
      try rw [lf_Jm_max]
      refine km_callP (fun r163 => ?_)
      try rw [lf_Fr_whole]
      refine km_callP (fun r166 => ?_)
      exact lb_No_ownOfFirst_169 ok N _ _
  refine km_ite (fun _ => ?_) (fun _ => ?_)
  · refine km_ite (fun _ => ?_) (fun _ => ?_)
    · exact lb_No_ownOfFirst_190 ok N _ _
    · try rw [lf_Fr_sign]
      refine km_callP (fun r184 => ?_)
      try rw [lf_Fr_whole]
      refine km_callP (fun r187 => ?_)
      exact lb_No_ownOfFirst_190 ok N _ _
  refine km_ite (fun _ => ?_) (fun _ => ?_)
  · try rw [lf_Fr_add]
    refine km_callP (fun r195 => ?_)
    rfl
  rfl
set_option maxHeartbeats 4000000 in
theorem lb_No_ownOfFirst_0 {Λ : tQ} {ρ : tR} {M : mv_M} (ok : t_ok Λ ρ M) (N : Nat) (τ : tS) (v0 : Nat) (v1 : Int32) (v2 : Int32) (v3 : Int32) (h_v0 : v0 < t_n ρ) : jb_No_ownOfFirst_0 N (wT Λ ρ M τ) (t_A ρ v0 0) v1 v2 v3 = (kb_No_ownOfFirst_0 N ρ τ v0 v1 v2 v3).map (wqT Λ ρ M) := by
  unfold jb_No_ownOfFirst_0 kb_No_ownOfFirst_0
  first | rw [tg_N_4 ok h_v0, Option.bind_some] | rw [Option.bind_some]
  refine km_bindR (fun j4 e4 => ?_)
  have b4 := (ok.2.2.2.2.2 _ h_v0 4) j4 e4
  first | rw [tg_N_9 ok b4, Option.bind_some] | rw [Option.bind_some]
  rw [Option.bind_some]
  try rw [tl_9 ok b4]
  refine km_bind (fun x8 => ?_)
  first | rw [tg_N_5 ok h_v0, Option.bind_some] | rw [Option.bind_some]
  refine km_optT (fun _ => ?_) (fun j15 e15 => ?_)
  · exact lb_No_ownOfFirst_31 ok N _ _ _ _ _ _ h_v0
  · have b15 := (ok.2.2.2.2.2 _ h_v0 5) j15 e15
    first | rw [tg_N_5 ok h_v0, Option.bind_some] | rw [Option.bind_some]
    refine km_bindR (fun j26 e26 => ?_)
    have b26 := (ok.2.2.2.2.2 _ h_v0 5) j26 e26
    first | rw [tg_N_9 ok b26, Option.bind_some] | rw [Option.bind_some]
    rw [Option.bind_some]
    try rw [tl_9 ok b26]
    refine km_bind (fun x30 => ?_)
    exact lb_No_ownOfFirst_31 ok N _ _ _ _ _ _ h_v0
theorem lf_No_ownOfFirst {Λ : tQ} {ρ : tR} {M : mv_M} (ok : t_ok Λ ρ M) (N : Nat) (τ : tS) (v0 : Nat) (v1 : Int32) (v2 : Int32) (v3 : Int32) (h_v0 : v0 < t_n ρ) : jf_No_ownOfFirst N (wT Λ ρ M τ) (t_A ρ v0 0) v1 v2 v3 = (kf_No_ownOfFirst N ρ τ v0 v1 v2 v3).map (wqT Λ ρ M) := lb_No_ownOfFirst_0 ok N τ v0 v1 v2 v3 h_v0
/-! ===== PlainLearner$Node.ownOfSecond(II)J ===== -/
def kb_No_ownOfSecond_30 (N : Nat) (ρ : tR) (τ : tS) (v0 : Nat) (v3 : Int64) (s0 : Int64) : Option (Int64 × tS) :=
  if (τ.2.2.1 v0 1) = 0 then (some (4294967297, τ)) else
  if (τ.2.2.1 v0 1) = 1 then (some ((-4294967295), τ)) else
  if (τ.2.2.1 v0 1) = 2 then (some (v3, τ)) else
  if (τ.2.2.1 v0 1) = 3 then (Option.bind (kf_Fr_inverse N s0) fun r78 =>
  Option.bind (kf_Fr_times N v3 r78) fun r86 =>
  Option.bind (kf_Fr_times N r86 r78) fun r91 =>
  Option.bind (kf_Fr_minus N r91) fun r94 =>
  some (r94, τ)) else
  some (v3, τ)
def kb_No_ownOfSecond_0 (N : Nat) (ρ : tR) (τ : tS) (v0 : Nat) (v1 : Int32) (v2 : Int32) : Option (Int64 × tS) :=
  Option.bind (t_R ρ v0 4) fun j4 =>
  Option.bind (mj_tabL (τ.2.2.2.2 j4 9) (t_len ρ j4) v1) fun x8 =>
  tk_opt (t_R ρ v0 5) (kb_No_ownOfSecond_30 N ρ τ v0 x8 0) fun j14 =>
  Option.bind (t_R ρ v0 5) fun j25 =>
  Option.bind (mj_tabL (τ.2.2.2.2 j25 9) (t_len ρ j25) v2) fun x29 =>
  kb_No_ownOfSecond_30 N ρ τ v0 x8 x29
def kf_No_ownOfSecond (N : Nat) (ρ : tR) (τ : tS) (v0 : Nat) (v1 : Int32) (v2 : Int32) : Option (Int64 × tS) := kb_No_ownOfSecond_0 N ρ τ v0 v1 v2
set_option maxHeartbeats 4000000 in
theorem lb_No_ownOfSecond_30 {Λ : tQ} {ρ : tR} {M : mv_M} (ok : t_ok Λ ρ M) (N : Nat) (τ : tS) (v0 : Nat) (v3 : Int64) (s0 : Int64) (h_v0 : v0 < t_n ρ) : jb_No_ownOfSecond_30 N (wT Λ ρ M τ) (t_A ρ v0 0) v3 s0 = (kb_No_ownOfSecond_30 N ρ τ v0 v3 s0).map (wqT Λ ρ M) := by
  unfold jb_No_ownOfSecond_30 kb_No_ownOfSecond_30
  first | rw [tg_N_1 ok h_v0, Option.bind_some] | rw [Option.bind_some]
  refine km_ite (fun _ => ?_) (fun _ => ?_)
  · rfl
  refine km_ite (fun _ => ?_) (fun _ => ?_)
  · rfl
  refine km_ite (fun _ => ?_) (fun _ => ?_)
  · rfl
  refine km_ite (fun _ => ?_) (fun _ => ?_)
  · try rw [lf_Fr_inverse]
    refine km_callP (fun r78 => ?_)
    try rw [lf_Fr_times]
    refine km_callP (fun r86 => ?_)
    try rw [lf_Fr_times]
    refine km_callP (fun r91 => ?_)
    try rw [lf_Fr_minus]
    refine km_callP (fun r94 => ?_)
    rfl
  rfl
set_option maxHeartbeats 4000000 in
theorem lb_No_ownOfSecond_0 {Λ : tQ} {ρ : tR} {M : mv_M} (ok : t_ok Λ ρ M) (N : Nat) (τ : tS) (v0 : Nat) (v1 : Int32) (v2 : Int32) (h_v0 : v0 < t_n ρ) : jb_No_ownOfSecond_0 N (wT Λ ρ M τ) (t_A ρ v0 0) v1 v2 = (kb_No_ownOfSecond_0 N ρ τ v0 v1 v2).map (wqT Λ ρ M) := by
  unfold jb_No_ownOfSecond_0 kb_No_ownOfSecond_0
  first | rw [tg_N_4 ok h_v0, Option.bind_some] | rw [Option.bind_some]
  refine km_bindR (fun j4 e4 => ?_)
  have b4 := (ok.2.2.2.2.2 _ h_v0 4) j4 e4
  first | rw [tg_N_9 ok b4, Option.bind_some] | rw [Option.bind_some]
  rw [Option.bind_some]
  try rw [tl_9 ok b4]
  refine km_bind (fun x8 => ?_)
  first | rw [tg_N_5 ok h_v0, Option.bind_some] | rw [Option.bind_some]
  refine km_optT (fun _ => ?_) (fun j14 e14 => ?_)
  · exact lb_No_ownOfSecond_30 ok N _ _ _ _ h_v0
  · have b14 := (ok.2.2.2.2.2 _ h_v0 5) j14 e14
    first | rw [tg_N_5 ok h_v0, Option.bind_some] | rw [Option.bind_some]
    refine km_bindR (fun j25 e25 => ?_)
    have b25 := (ok.2.2.2.2.2 _ h_v0 5) j25 e25
    first | rw [tg_N_9 ok b25, Option.bind_some] | rw [Option.bind_some]
    rw [Option.bind_some]
    try rw [tl_9 ok b25]
    refine km_bind (fun x29 => ?_)
    exact lb_No_ownOfSecond_30 ok N _ _ _ _ h_v0
theorem lf_No_ownOfSecond {Λ : tQ} {ρ : tR} {M : mv_M} (ok : t_ok Λ ρ M) (N : Nat) (τ : tS) (v0 : Nat) (v1 : Int32) (v2 : Int32) (h_v0 : v0 < t_n ρ) : jf_No_ownOfSecond N (wT Λ ρ M τ) (t_A ρ v0 0) v1 v2 = (kf_No_ownOfSecond N ρ τ v0 v1 v2).map (wqT Λ ρ M) := lb_No_ownOfSecond_0 ok N τ v0 v1 v2 h_v0
/-! ===== PlainLearner$Node.giveCell(III)V ===== -/
def kb_No_giveCell_168 (N : Nat) (ρ : tR) (c39 : tS → Nat → Int32 → Int32 → Int64 → Int32 → Int32 → Option (Unit × tS)) (τ : tS) (v0 : Nat) (v2 : Int32) (v3 : Int32) (v4 : Int64) (v6 : Int32) (v7 : Int32) : Option (Unit × tS) :=
  c39 τ v0 v2 v3 v4 v6 (v7 + 1)
def kb_No_giveCell_85 (N : Nat) (ρ : tR) (c39 : tS → Nat → Int32 → Int32 → Int64 → Int32 → Int32 → Option (Unit × tS)) (τ : tS) (v0 : Nat) (v2 : Int32) (v3 : Int32) (v4 : Int64) (v6 : Int32) (v7 : Int32) (v8 : Int32) (s0 : Int32) : Option (Unit × tS) :=
  Option.bind (t_R ρ v0 4) fun j91 =>
  Option.bind (t_R ρ v0 4) fun j100 =>
  Option.bind (mj_tabL (τ.2.2.2.2 j100 10) (t_len ρ j100) v8) fun x105 =>
  kk_call (kf_No_ownOfFirst N ρ τ v0 v8 s0 v6) fun r115 s115 =>
  Option.bind (kf_Fr_times N v4 r115) fun r118 =>
  Option.bind (kf_Fr_add N x105 r118) fun r121 =>
  mj_gd v8 (t_len ρ j91) <| kk_let (tV s115 j91 10 v8.toNatClampNeg r121) fun s124 =>
  tk_opt (t_R ρ v0 5) (kb_No_giveCell_168 N ρ c39 s124 v0 v2 v3 v4 v6 v7) fun j129 =>
  Option.bind (t_R ρ v0 5) fun j136 =>
  Option.bind (t_R ρ v0 5) fun j145 =>
  Option.bind (mj_tabL (s124.2.2.2.2 j145 10) (t_len ρ j145) s0) fun x150 =>
  kk_call (kf_No_ownOfSecond N ρ s124 v0 v8 s0) fun r158 s158 =>
  Option.bind (kf_Fr_times N v4 r158) fun r161 =>
  Option.bind (kf_Fr_add N x150 r161) fun r164 =>
  mj_gd s0 (t_len ρ j136) <| kk_let (tV s158 j136 10 s0.toNatClampNeg r164) fun s167 =>
  kb_No_giveCell_168 N ρ c39 s167 v0 v2 v3 v4 v6 v7
def kb_No_giveCell_39 (N : Nat) (ρ : tR) : Nat → tS → Nat → Int32 → Int32 → Int64 → Int32 → Int32 → Option (Unit × tS)
  | 0, _, _, _, _, _, _, _ => none
  | n + 1, τ, v0, v2, v3, v4, v6, v7 =>
    if (τ.2.2.1 v0 8) ≤ v7 then (some ((), τ)) else
    Option.bind (t_W ρ v0 6) fun w55 =>
    tk_opt (t_W ρ v0 7) (kb_No_giveCell_85 N ρ (kb_No_giveCell_39 N ρ n) τ v0 v2 v3 v4 v6 v7 (v2 + (v7 * (w55 4))) 0) fun w66 =>
    Option.bind (t_W ρ v0 7) fun w80 =>
    kb_No_giveCell_85 N ρ (kb_No_giveCell_39 N ρ n) τ v0 v2 v3 v4 v6 v7 (v2 + (v7 * (w55 4))) (v3 + (v7 * (w80 4)))
def kb_No_giveCell_34 (N : Nat) (ρ : tR) (τ : tS) (v0 : Nat) (v2 : Int32) (v3 : Int32) (v4 : Int64) (s0 : Int32) : Option (Unit × tS) :=
  kb_No_giveCell_39 N ρ N τ v0 v2 v3 v4 s0 0
def kb_No_giveCell_0 (N : Nat) (ρ : tR) (τ : tS) (v0 : Nat) (v1 : Int32) (v2 : Int32) (v3 : Int32) : Option (Unit × tS) :=
  Option.bind (mj_tabL (τ.2.2.2.2 v0 10) (t_len ρ v0) v1) fun x5 =>
  if (lg_cmp x5 1) = 0 then (some ((), τ)) else
  if (τ.2.2.1 v0 1) = 7 then (kk_call (kf_No_greatestOfRow N ρ τ v0 v2) fun r27 s27 =>
  kb_No_giveCell_34 N ρ s27 v0 v2 v3 x5 r27) else
  kb_No_giveCell_34 N ρ τ v0 v2 v3 x5 (-1)
def kf_No_giveCell (N : Nat) (ρ : tR) (τ : tS) (v0 : Nat) (v1 : Int32) (v2 : Int32) (v3 : Int32) : Option (Unit × tS) := kb_No_giveCell_0 N ρ τ v0 v1 v2 v3
set_option maxHeartbeats 4000000 in
theorem lb_No_giveCell_168 {Λ : tQ} {ρ : tR} {M : mv_M} (ok : t_ok Λ ρ M) (N : Nat) (k39 : mv_M → Nat → Int32 → Int32 → Int64 → Int32 → Int32 → Option (Unit × mv_M)) (c39 : tS → Nat → Int32 → Int32 → Int64 → Int32 → Int32 → Option (Unit × tS)) (hc39 : ∀ (τ : tS) (v0 : Nat) (v2 : Int32) (v3 : Int32) (v4 : Int64) (v6 : Int32) (v7 : Int32) (h_v0 : v0 < t_n ρ), k39 (wT Λ ρ M τ) (t_A ρ v0 0) v2 v3 v4 v6 v7 = (c39 τ v0 v2 v3 v4 v6 v7).map (wqT Λ ρ M)) (τ : tS) (v0 : Nat) (v2 : Int32) (v3 : Int32) (v4 : Int64) (v6 : Int32) (v7 : Int32) (h_v0 : v0 < t_n ρ) : jb_No_giveCell_168 N k39 (wT Λ ρ M τ) (t_A ρ v0 0) v2 v3 v4 v6 v7 = (kb_No_giveCell_168 N ρ c39 τ v0 v2 v3 v4 v6 v7).map (wqT Λ ρ M) := by
  unfold jb_No_giveCell_168 kb_No_giveCell_168
  exact hc39 _ _ _ _ _ _ _ h_v0
set_option maxHeartbeats 4000000 in
theorem lb_No_giveCell_85 {Λ : tQ} {ρ : tR} {M : mv_M} (ok : t_ok Λ ρ M) (N : Nat) (k39 : mv_M → Nat → Int32 → Int32 → Int64 → Int32 → Int32 → Option (Unit × mv_M)) (c39 : tS → Nat → Int32 → Int32 → Int64 → Int32 → Int32 → Option (Unit × tS)) (hc39 : ∀ (τ : tS) (v0 : Nat) (v2 : Int32) (v3 : Int32) (v4 : Int64) (v6 : Int32) (v7 : Int32) (h_v0 : v0 < t_n ρ), k39 (wT Λ ρ M τ) (t_A ρ v0 0) v2 v3 v4 v6 v7 = (c39 τ v0 v2 v3 v4 v6 v7).map (wqT Λ ρ M)) (τ : tS) (v0 : Nat) (v2 : Int32) (v3 : Int32) (v4 : Int64) (v6 : Int32) (v7 : Int32) (v8 : Int32) (s0 : Int32) (h_v0 : v0 < t_n ρ) : jb_No_giveCell_85 N k39 (wT Λ ρ M τ) (t_A ρ v0 0) v2 v3 v4 v6 v7 v8 s0 = (kb_No_giveCell_85 N ρ c39 τ v0 v2 v3 v4 v6 v7 v8 s0).map (wqT Λ ρ M) := by
  unfold jb_No_giveCell_85 kb_No_giveCell_85
  first | rw [tg_N_4 ok h_v0, Option.bind_some] | rw [Option.bind_some]
  refine km_bindR (fun j91 e91 => ?_)
  have b91 := (ok.2.2.2.2.2 _ h_v0 4) j91 e91
  first | rw [tg_N_10 ok b91, Option.bind_some] | rw [Option.bind_some]
  first | rw [tg_N_4 ok h_v0, Option.bind_some] | rw [Option.bind_some]
  refine km_bindR (fun j100 e100 => ?_)
  have b100 := (ok.2.2.2.2.2 _ h_v0 4) j100 e100
  first | rw [tg_N_10 ok b100, Option.bind_some] | rw [Option.bind_some]
  rw [Option.bind_some]
  try rw [tl_10 ok b100]
  refine km_bind (fun x105 => ?_)
  try rw [to_N ok h_v0]
  first | rw [lf_No_ownOfFirst ok N _ _ _ _ _ h_v0] | erw [lf_No_ownOfFirst ok N _ _ _ _ _ h_v0]
  refine km_call (fun r115 s115 => ?_)
  try rw [lf_Fr_times]
  refine km_callP (fun r118 => ?_)
  try rw [lf_Fr_add]
  refine km_callP (fun r121 => ?_)
  rw [Option.bind_some]
  rw [tx_10 ok b91]
  refine km_gd (fun _ => ?_)
  refine km_let ?_
  first | rw [tg_N_5 ok h_v0, Option.bind_some] | rw [Option.bind_some]
  refine km_optT (fun _ => ?_) (fun j129 e129 => ?_)
  · exact lb_No_giveCell_168 ok N _ _ hc39 _ _ _ _ _ _ _ h_v0
  · have b129 := (ok.2.2.2.2.2 _ h_v0 5) j129 e129
    first | rw [tg_N_5 ok h_v0, Option.bind_some] | rw [Option.bind_some]
    refine km_bindR (fun j136 e136 => ?_)
    have b136 := (ok.2.2.2.2.2 _ h_v0 5) j136 e136
    first | rw [tg_N_10 ok b136, Option.bind_some] | rw [Option.bind_some]
    first | rw [tg_N_5 ok h_v0, Option.bind_some] | rw [Option.bind_some]
    refine km_bindR (fun j145 e145 => ?_)
    have b145 := (ok.2.2.2.2.2 _ h_v0 5) j145 e145
    first | rw [tg_N_10 ok b145, Option.bind_some] | rw [Option.bind_some]
    rw [Option.bind_some]
    try rw [tl_10 ok b145]
    refine km_bind (fun x150 => ?_)
    try rw [to_N ok h_v0]
    first | rw [lf_No_ownOfSecond ok N _ _ _ _ h_v0] | erw [lf_No_ownOfSecond ok N _ _ _ _ h_v0]
    refine km_call (fun r158 s158 => ?_)
    try rw [lf_Fr_times]
    refine km_callP (fun r161 => ?_)
    try rw [lf_Fr_add]
    refine km_callP (fun r164 => ?_)
    rw [Option.bind_some]
    rw [tx_10 ok b136]
    refine km_gd (fun _ => ?_)
    refine km_let ?_
    exact lb_No_giveCell_168 ok N _ _ hc39 _ _ _ _ _ _ _ h_v0
set_option maxHeartbeats 4000000 in
theorem lb_No_giveCell_39 {Λ : tQ} {ρ : tR} {M : mv_M} (ok : t_ok Λ ρ M) (N : Nat) : ∀ (n : Nat) (τ : tS) (v0 : Nat) (v2 : Int32) (v3 : Int32) (v4 : Int64) (v6 : Int32) (v7 : Int32) (h_v0 : v0 < t_n ρ), jb_No_giveCell_39 N n (wT Λ ρ M τ) (t_A ρ v0 0) v2 v3 v4 v6 v7 = (kb_No_giveCell_39 N ρ n τ v0 v2 v3 v4 v6 v7).map (wqT Λ ρ M) := by
  intro n
  induction n with
  | zero => intros; rfl
  | succ n ih =>
    intro τ v0 v2 v3 v4 v6 v7 h_v0
    rw [jb_No_giveCell_39, kb_No_giveCell_39]
    first | rw [tg_N_8 ok h_v0, Option.bind_some] | rw [Option.bind_some]
    refine km_ite (fun _ => ?_) (fun _ => ?_)
    · rfl
    · first | rw [tg_N_6 ok h_v0, Option.bind_some] | rw [Option.bind_some]
      refine km_bindR (fun w55 e55 => ?_)
      first | rw [tg_V_4 ok h_v0 e55, Option.bind_some] | rw [Option.bind_some]
      first | rw [tg_N_7 ok h_v0, Option.bind_some] | rw [Option.bind_some]
      refine km_optT (fun _ => ?_) (fun w66 e66 => ?_)
      · exact lb_No_giveCell_85 ok N _ _ ih _ _ _ _ _ _ _ _ _ h_v0
      · first | rw [tg_N_7 ok h_v0, Option.bind_some] | rw [Option.bind_some]
        refine km_bindR (fun w80 e80 => ?_)
        first | rw [tg_V_4 ok h_v0 e80, Option.bind_some] | rw [Option.bind_some]
        exact lb_No_giveCell_85 ok N _ _ ih _ _ _ _ _ _ _ _ _ h_v0
set_option maxHeartbeats 4000000 in
theorem lb_No_giveCell_34 {Λ : tQ} {ρ : tR} {M : mv_M} (ok : t_ok Λ ρ M) (N : Nat) (τ : tS) (v0 : Nat) (v2 : Int32) (v3 : Int32) (v4 : Int64) (s0 : Int32) (h_v0 : v0 < t_n ρ) : jb_No_giveCell_34 N (wT Λ ρ M τ) (t_A ρ v0 0) v2 v3 v4 s0 = (kb_No_giveCell_34 N ρ τ v0 v2 v3 v4 s0).map (wqT Λ ρ M) := by
  unfold jb_No_giveCell_34 kb_No_giveCell_34
  exact lb_No_giveCell_39 ok N N _ _ _ _ _ _ _ h_v0
set_option maxHeartbeats 4000000 in
theorem lb_No_giveCell_0 {Λ : tQ} {ρ : tR} {M : mv_M} (ok : t_ok Λ ρ M) (N : Nat) (τ : tS) (v0 : Nat) (v1 : Int32) (v2 : Int32) (v3 : Int32) (h_v0 : v0 < t_n ρ) : jb_No_giveCell_0 N (wT Λ ρ M τ) (t_A ρ v0 0) v1 v2 v3 = (kb_No_giveCell_0 N ρ τ v0 v1 v2 v3).map (wqT Λ ρ M) := by
  unfold jb_No_giveCell_0 kb_No_giveCell_0
  first | rw [tg_N_10 ok h_v0, Option.bind_some] | rw [Option.bind_some]
  rw [Option.bind_some]
  try rw [tl_10 ok h_v0]
  refine km_bind (fun x5 => ?_)
  refine km_ite (fun _ => ?_) (fun _ => ?_)
  · rfl
  · first | rw [tg_N_1 ok h_v0, Option.bind_some] | rw [Option.bind_some]
    refine km_ite (fun _ => ?_) (fun _ => ?_)
    · try rw [to_N ok h_v0]
      first | rw [lf_No_greatestOfRow ok N _ _ _ h_v0] | erw [lf_No_greatestOfRow ok N _ _ _ h_v0]
      refine km_call (fun r27 s27 => ?_)
      exact lb_No_giveCell_34 ok N _ _ _ _ _ _ h_v0
    · exact lb_No_giveCell_34 ok N _ _ _ _ _ _ h_v0
theorem lf_No_giveCell {Λ : tQ} {ρ : tR} {M : mv_M} (ok : t_ok Λ ρ M) (N : Nat) (τ : tS) (v0 : Nat) (v1 : Int32) (v2 : Int32) (v3 : Int32) (h_v0 : v0 < t_n ρ) : jf_No_giveCell N (wT Λ ρ M τ) (t_A ρ v0 0) v1 v2 v3 = (kf_No_giveCell N ρ τ v0 v1 v2 v3).map (wqT Λ ρ M) := lb_No_giveCell_0 ok N τ v0 v1 v2 v3 h_v0
/-! ===== PlainLearner$Node.sumOfProducts(II)J ===== -/
def kb_No_sumOfProducts_16 (N : Nat) (ρ : tR) (τ : tS) (v3 : Int64) : Option (Int64 × tS) :=
  some (v3, τ)
def kb_No_sumOfProducts_21 (N : Nat) (ρ : tR) : Nat → tS → Nat → Int32 → Int32 → Int64 → Int32 → Option (Int64 × tS)
  | 0, _, _, _, _, _, _ => none
  | n + 1, τ, v0, v1, v2, v3, v5 =>
    if (τ.2.2.1 v0 8) ≤ v5 then (some (v3, τ)) else
    Option.bind (t_R ρ v0 4) fun j34 =>
    Option.bind (t_W ρ v0 6) fun w44 =>
    Option.bind (mj_tabL (τ.2.2.2.2 j34 9) (t_len ρ j34) (v1 + (v5 * (w44 4)))) fun x49 =>
    Option.bind (t_R ρ v0 5) fun j56 =>
    Option.bind (t_W ρ v0 7) fun w66 =>
    Option.bind (mj_tabL (τ.2.2.2.2 j56 9) (t_len ρ j56) (v2 + (v5 * (w66 4)))) fun x71 =>
    Option.bind (kf_Fr_times N x49 x71) fun r79 =>
    Option.bind (kf_Fr_add N v3 r79) fun r82 =>
    kb_No_sumOfProducts_21 N ρ n τ v0 v1 v2 r82 (v5 + 1)
def kb_No_sumOfProducts_0 (N : Nat) (ρ : tR) (τ : tS) (v0 : Nat) (v1 : Int32) (v2 : Int32) : Option (Int64 × tS) :=
  tk_opt (t_R ρ v0 5) (kb_No_sumOfProducts_16 N ρ τ 1) fun j6 =>
  tk_opt (t_W ρ v0 7) (kb_No_sumOfProducts_16 N ρ τ 1) fun w13 =>
  kb_No_sumOfProducts_21 N ρ N τ v0 v1 v2 1 0
def kf_No_sumOfProducts (N : Nat) (ρ : tR) (τ : tS) (v0 : Nat) (v1 : Int32) (v2 : Int32) : Option (Int64 × tS) := kb_No_sumOfProducts_0 N ρ τ v0 v1 v2
set_option maxHeartbeats 4000000 in
theorem lb_No_sumOfProducts_16 {Λ : tQ} {ρ : tR} {M : mv_M} (ok : t_ok Λ ρ M) (N : Nat) (τ : tS) (v3 : Int64) : jb_No_sumOfProducts_16 N (wT Λ ρ M τ) v3 = (kb_No_sumOfProducts_16 N ρ τ v3).map (wqT Λ ρ M) := by
  unfold jb_No_sumOfProducts_16 kb_No_sumOfProducts_16
  rfl
set_option maxHeartbeats 4000000 in
theorem lb_No_sumOfProducts_21 {Λ : tQ} {ρ : tR} {M : mv_M} (ok : t_ok Λ ρ M) (N : Nat) : ∀ (n : Nat) (τ : tS) (v0 : Nat) (v1 : Int32) (v2 : Int32) (v3 : Int64) (v5 : Int32) (h_v0 : v0 < t_n ρ), jb_No_sumOfProducts_21 N n (wT Λ ρ M τ) (t_A ρ v0 0) v1 v2 v3 v5 = (kb_No_sumOfProducts_21 N ρ n τ v0 v1 v2 v3 v5).map (wqT Λ ρ M) := by
  intro n
  induction n with
  | zero => intros; rfl
  | succ n ih =>
    intro τ v0 v1 v2 v3 v5 h_v0
    rw [jb_No_sumOfProducts_21, kb_No_sumOfProducts_21]
    first | rw [tg_N_8 ok h_v0, Option.bind_some] | rw [Option.bind_some]
    refine km_ite (fun _ => ?_) (fun _ => ?_)
    · rfl
    · first | rw [tg_N_4 ok h_v0, Option.bind_some] | rw [Option.bind_some]
      refine km_bindR (fun j34 e34 => ?_)
      have b34 := (ok.2.2.2.2.2 _ h_v0 4) j34 e34
      first | rw [tg_N_9 ok b34, Option.bind_some] | rw [Option.bind_some]
      first | rw [tg_N_6 ok h_v0, Option.bind_some] | rw [Option.bind_some]
      refine km_bindR (fun w44 e44 => ?_)
      first | rw [tg_V_4 ok h_v0 e44, Option.bind_some] | rw [Option.bind_some]
      rw [Option.bind_some]
      try rw [tl_9 ok b34]
      refine km_bind (fun x49 => ?_)
      first | rw [tg_N_5 ok h_v0, Option.bind_some] | rw [Option.bind_some]
      refine km_bindR (fun j56 e56 => ?_)
      have b56 := (ok.2.2.2.2.2 _ h_v0 5) j56 e56
      first | rw [tg_N_9 ok b56, Option.bind_some] | rw [Option.bind_some]
      first | rw [tg_N_7 ok h_v0, Option.bind_some] | rw [Option.bind_some]
      refine km_bindR (fun w66 e66 => ?_)
      first | rw [tg_V_4 ok h_v0 e66, Option.bind_some] | rw [Option.bind_some]
      rw [Option.bind_some]
      try rw [tl_9 ok b56]
      refine km_bind (fun x71 => ?_)
      try rw [lf_Fr_times]
      refine km_callP (fun r79 => ?_)
      try rw [lf_Fr_add]
      refine km_callP (fun r82 => ?_)
      exact ih _ _ _ _ _ _ h_v0
set_option maxHeartbeats 4000000 in
theorem lb_No_sumOfProducts_0 {Λ : tQ} {ρ : tR} {M : mv_M} (ok : t_ok Λ ρ M) (N : Nat) (τ : tS) (v0 : Nat) (v1 : Int32) (v2 : Int32) (h_v0 : v0 < t_n ρ) : jb_No_sumOfProducts_0 N (wT Λ ρ M τ) (t_A ρ v0 0) v1 v2 = (kb_No_sumOfProducts_0 N ρ τ v0 v1 v2).map (wqT Λ ρ M) := by
  unfold jb_No_sumOfProducts_0 kb_No_sumOfProducts_0
  first | rw [tg_N_5 ok h_v0, Option.bind_some] | rw [Option.bind_some]
  refine km_optT (fun _ => ?_) (fun j6 e6 => ?_)
  · exact lb_No_sumOfProducts_16 ok N _ _
  · have b6 := (ok.2.2.2.2.2 _ h_v0 5) j6 e6
    first | rw [tg_N_7 ok h_v0, Option.bind_some] | rw [Option.bind_some]
    refine km_optT (fun _ => ?_) (fun w13 e13 => ?_)
    · exact lb_No_sumOfProducts_16 ok N _ _
    · exact lb_No_sumOfProducts_21 ok N N _ _ _ _ _ _ h_v0
theorem lf_No_sumOfProducts {Λ : tQ} {ρ : tR} {M : mv_M} (ok : t_ok Λ ρ M) (N : Nat) (τ : tS) (v0 : Nat) (v1 : Int32) (v2 : Int32) (h_v0 : v0 < t_n ρ) : jf_No_sumOfProducts N (wT Λ ρ M τ) (t_A ρ v0 0) v1 v2 = (kf_No_sumOfProducts N ρ τ v0 v1 v2).map (wqT Λ ρ M) := lb_No_sumOfProducts_0 ok N τ v0 v1 v2 h_v0
/-! ===== PlainLearner$Node.sumOfRow(I)J ===== -/
def kb_No_sumOfRow_5 (N : Nat) (ρ : tR) : Nat → tS → Nat → Int32 → Int64 → Int32 → Option (Int64 × tS)
  | 0, _, _, _, _, _ => none
  | n + 1, τ, v0, v1, v2, v4 =>
    if (τ.2.2.1 v0 8) ≤ v4 then (some (v2, τ)) else
    Option.bind (t_R ρ v0 4) fun j19 =>
    Option.bind (t_W ρ v0 6) fun w29 =>
    Option.bind (mj_tabL (τ.2.2.2.2 j19 9) (t_len ρ j19) (v1 + (v4 * (w29 4)))) fun x34 =>
    Option.bind (kf_Fr_add N v2 x34) fun r35 =>
    kb_No_sumOfRow_5 N ρ n τ v0 v1 r35 (v4 + 1)
def kb_No_sumOfRow_0 (N : Nat) (ρ : tR) (τ : tS) (v0 : Nat) (v1 : Int32) : Option (Int64 × tS) :=
  kb_No_sumOfRow_5 N ρ N τ v0 v1 1 0
def kf_No_sumOfRow (N : Nat) (ρ : tR) (τ : tS) (v0 : Nat) (v1 : Int32) : Option (Int64 × tS) := kb_No_sumOfRow_0 N ρ τ v0 v1
set_option maxHeartbeats 4000000 in
theorem lb_No_sumOfRow_5 {Λ : tQ} {ρ : tR} {M : mv_M} (ok : t_ok Λ ρ M) (N : Nat) : ∀ (n : Nat) (τ : tS) (v0 : Nat) (v1 : Int32) (v2 : Int64) (v4 : Int32) (h_v0 : v0 < t_n ρ), jb_No_sumOfRow_5 N n (wT Λ ρ M τ) (t_A ρ v0 0) v1 v2 v4 = (kb_No_sumOfRow_5 N ρ n τ v0 v1 v2 v4).map (wqT Λ ρ M) := by
  intro n
  induction n with
  | zero => intros; rfl
  | succ n ih =>
    intro τ v0 v1 v2 v4 h_v0
    rw [jb_No_sumOfRow_5, kb_No_sumOfRow_5]
    first | rw [tg_N_8 ok h_v0, Option.bind_some] | rw [Option.bind_some]
    refine km_ite (fun _ => ?_) (fun _ => ?_)
    · rfl
    · first | rw [tg_N_4 ok h_v0, Option.bind_some] | rw [Option.bind_some]
      refine km_bindR (fun j19 e19 => ?_)
      have b19 := (ok.2.2.2.2.2 _ h_v0 4) j19 e19
      first | rw [tg_N_9 ok b19, Option.bind_some] | rw [Option.bind_some]
      first | rw [tg_N_6 ok h_v0, Option.bind_some] | rw [Option.bind_some]
      refine km_bindR (fun w29 e29 => ?_)
      first | rw [tg_V_4 ok h_v0 e29, Option.bind_some] | rw [Option.bind_some]
      rw [Option.bind_some]
      try rw [tl_9 ok b19]
      refine km_bind (fun x34 => ?_)
      try rw [lf_Fr_add]
      refine km_callP (fun r35 => ?_)
      exact ih _ _ _ _ _ h_v0
set_option maxHeartbeats 4000000 in
theorem lb_No_sumOfRow_0 {Λ : tQ} {ρ : tR} {M : mv_M} (ok : t_ok Λ ρ M) (N : Nat) (τ : tS) (v0 : Nat) (v1 : Int32) (h_v0 : v0 < t_n ρ) : jb_No_sumOfRow_0 N (wT Λ ρ M τ) (t_A ρ v0 0) v1 = (kb_No_sumOfRow_0 N ρ τ v0 v1).map (wqT Λ ρ M) := by
  unfold jb_No_sumOfRow_0 kb_No_sumOfRow_0
  exact lb_No_sumOfRow_5 ok N N _ _ _ _ _ h_v0
theorem lf_No_sumOfRow {Λ : tQ} {ρ : tR} {M : mv_M} (ok : t_ok Λ ρ M) (N : Nat) (τ : tS) (v0 : Nat) (v1 : Int32) (h_v0 : v0 < t_n ρ) : jf_No_sumOfRow N (wT Λ ρ M τ) (t_A ρ v0 0) v1 = (kf_No_sumOfRow N ρ τ v0 v1).map (wqT Λ ρ M) := lb_No_sumOfRow_0 ok N τ v0 v1 h_v0
/-! ===== PlainLearner$Node.reckonCell(II)J ===== -/
def kb_No_reckonCell_242 (N : Nat) (ρ : tR) (τ : tS) (s0 : Int64) : Option (Int64 × tS) :=
  some (s0, τ)
def kb_No_reckonCell_226 (N : Nat) (ρ : tR) (τ : tS) (s0 : Int64) : Option (Int64 × tS) :=
  some (s0, τ)
def kb_No_reckonCell_208 (N : Nat) (ρ : tR) (τ : tS) (s0 : Int64) : Option (Int64 × tS) :=
  some (s0, τ)
def kb_No_reckonCell_30 (N : Nat) (ρ : tR) (τ : tS) (v0 : Nat) (v1 : Int32) (v2 : Int32) (v3 : Int64) (s0 : Int64) : Option (Int64 × tS) :=
  if (τ.2.2.1 v0 1) = 0 then (Option.bind (kf_Fr_add N v3 s0) fun r119 =>
  some (r119, τ)) else
  if (τ.2.2.1 v0 1) = 1 then (Option.bind (kf_Fr_minus N s0) fun r126 =>
  Option.bind (kf_Fr_add N v3 r126) fun r129 =>
  some (r129, τ)) else
  if (τ.2.2.1 v0 1) = 2 then (Option.bind (kf_Fr_times N v3 s0) fun r136 =>
  some (r136, τ)) else
  if (τ.2.2.1 v0 1) = 3 then (Option.bind (kf_Fr_inverse N s0) fun r143 =>
  Option.bind (kf_Fr_times N v3 r143) fun r146 =>
  some (r146, τ)) else
  if (τ.2.2.1 v0 1) = 4 then (kk_call (kf_No_sumOfProducts N ρ τ v0 v1 v2) fun r153 s153 =>
  some (r153, s153)) else
  if (τ.2.2.1 v0 1) = 5 then (kk_call (kf_No_sumOfRow N ρ τ v0 v1) fun r159 s159 =>
  some (r159, s159)) else
  if (τ.2.2.1 v0 1) = 6 then (kk_call (kf_No_sumOfRow N ρ τ v0 v1) fun r165 s165 =>
  Option.bind (kf_Fr_whole N (s165.2.2.1 v0 8)) fun r172 =>
  Option.bind (kf_Fr_inverse N r172) fun r175 =>
  Option.bind (kf_Fr_times N r165 r175) fun r178 =>
  some (r178, s165)) else
  if (τ.2.2.1 v0 1) = 7 then (kk_call (kf_No_greatestOfRow N ρ τ v0 v1) fun r184 s184 =>
  if 0 ≤ r184 then (Option.bind (t_R ρ v0 4) fun j202 =>
  Option.bind (mj_tabL (s184.2.2.2.2 j202 9) (t_len ρ j202) r184) fun x207 =>
  kb_No_reckonCell_208 N ρ s184 x207) else
  kb_No_reckonCell_208 N ρ s184 0) else
  if (τ.2.2.1 v0 1) = 8 then (some (v3, τ)) else
  if (τ.2.2.1 v0 1) = 9 then (some (v3, τ)) else
  if (τ.2.2.1 v0 1) = 10 then (Option.bind (kf_Fr_minus N v3) fun r210 =>
  some (r210, τ)) else
  if (τ.2.2.1 v0 1) = 11 then (Option.bind (kf_Fr_sign N v3) fun r215 =>
  if 0 ≤ r215 then (kb_No_reckonCell_226 N ρ τ v3) else
  kb_No_reckonCell_226 N ρ τ 1) else
  if (τ.2.2.1 v0 1) = 12 then (Option.bind (kf_Fr_sign N v3) fun r228 =>
  if 0 ≤ r228 then (kb_No_reckonCell_242 N ρ τ v3) else
  Option.bind (kf_Fr_minus N v3) fun r235 =>
  kb_No_reckonCell_242 N ρ τ r235) else
  if (τ.2.2.1 v0 1) = 13 then (Option.bind (kf_Fr_times N v3 v3) fun r245 =>
  some (r245, τ)) else
  if (τ.2.2.1 v0 1) = 14 then (some (v3, τ)) else
  if (τ.2.2.1 v0 1) = 15 then (kk_call (kf_No_sumOfRow N ρ τ v0 v1) fun r159 s159 =>
  some (r159, s159)) else
  some (v3, τ)
def kb_No_reckonCell_0 (N : Nat) (ρ : tR) (τ : tS) (v0 : Nat) (v1 : Int32) (v2 : Int32) : Option (Int64 × tS) :=
  Option.bind (t_R ρ v0 4) fun j4 =>
  Option.bind (mj_tabL (τ.2.2.2.2 j4 9) (t_len ρ j4) v1) fun x8 =>
  tk_opt (t_R ρ v0 5) (kb_No_reckonCell_30 N ρ τ v0 v1 v2 x8 0) fun j14 =>
  Option.bind (t_R ρ v0 5) fun j25 =>
  Option.bind (mj_tabL (τ.2.2.2.2 j25 9) (t_len ρ j25) v2) fun x29 =>
  kb_No_reckonCell_30 N ρ τ v0 v1 v2 x8 x29
def kf_No_reckonCell (N : Nat) (ρ : tR) (τ : tS) (v0 : Nat) (v1 : Int32) (v2 : Int32) : Option (Int64 × tS) := kb_No_reckonCell_0 N ρ τ v0 v1 v2
set_option maxHeartbeats 4000000 in
theorem lb_No_reckonCell_242 {Λ : tQ} {ρ : tR} {M : mv_M} (ok : t_ok Λ ρ M) (N : Nat) (τ : tS) (s0 : Int64) : jb_No_reckonCell_242 N (wT Λ ρ M τ) s0 = (kb_No_reckonCell_242 N ρ τ s0).map (wqT Λ ρ M) := by
  unfold jb_No_reckonCell_242 kb_No_reckonCell_242
  rfl
set_option maxHeartbeats 4000000 in
theorem lb_No_reckonCell_226 {Λ : tQ} {ρ : tR} {M : mv_M} (ok : t_ok Λ ρ M) (N : Nat) (τ : tS) (s0 : Int64) : jb_No_reckonCell_226 N (wT Λ ρ M τ) s0 = (kb_No_reckonCell_226 N ρ τ s0).map (wqT Λ ρ M) := by
  unfold jb_No_reckonCell_226 kb_No_reckonCell_226
  rfl
set_option maxHeartbeats 4000000 in
theorem lb_No_reckonCell_208 {Λ : tQ} {ρ : tR} {M : mv_M} (ok : t_ok Λ ρ M) (N : Nat) (τ : tS) (s0 : Int64) : jb_No_reckonCell_208 N (wT Λ ρ M τ) s0 = (kb_No_reckonCell_208 N ρ τ s0).map (wqT Λ ρ M) := by
  unfold jb_No_reckonCell_208 kb_No_reckonCell_208
  rfl
set_option maxHeartbeats 4000000 in
theorem lb_No_reckonCell_30 {Λ : tQ} {ρ : tR} {M : mv_M} (ok : t_ok Λ ρ M) (N : Nat) (τ : tS) (v0 : Nat) (v1 : Int32) (v2 : Int32) (v3 : Int64) (s0 : Int64) (h_v0 : v0 < t_n ρ) : jb_No_reckonCell_30 N (wT Λ ρ M τ) (t_A ρ v0 0) v1 v2 v3 s0 = (kb_No_reckonCell_30 N ρ τ v0 v1 v2 v3 s0).map (wqT Λ ρ M) := by
  unfold jb_No_reckonCell_30 kb_No_reckonCell_30
  first | rw [tg_N_1 ok h_v0, Option.bind_some] | rw [Option.bind_some]
  refine km_ite (fun _ => ?_) (fun _ => ?_)
  · try rw [lf_Fr_add]
    refine km_callP (fun r119 => ?_)
    rfl
  refine km_ite (fun _ => ?_) (fun _ => ?_)
  · try rw [lf_Fr_minus]
    refine km_callP (fun r126 => ?_)
    try rw [lf_Fr_add]
    refine km_callP (fun r129 => ?_)
    rfl
  refine km_ite (fun _ => ?_) (fun _ => ?_)
  · try rw [lf_Fr_times]
    refine km_callP (fun r136 => ?_)
    rfl
  refine km_ite (fun _ => ?_) (fun _ => ?_)
  · try rw [lf_Fr_inverse]
    refine km_callP (fun r143 => ?_)
    try rw [lf_Fr_times]
    refine km_callP (fun r146 => ?_)
    rfl
  refine km_ite (fun _ => ?_) (fun _ => ?_)
  · try rw [to_N ok h_v0]
    first | rw [lf_No_sumOfProducts ok N _ _ _ _ h_v0] | erw [lf_No_sumOfProducts ok N _ _ _ _ h_v0]
    refine km_call (fun r153 s153 => ?_)
    rfl
  refine km_ite (fun _ => ?_) (fun _ => ?_)
  · try rw [to_N ok h_v0]
    first | rw [lf_No_sumOfRow ok N _ _ _ h_v0] | erw [lf_No_sumOfRow ok N _ _ _ h_v0]
    refine km_call (fun r159 s159 => ?_)
    rfl
  refine km_ite (fun _ => ?_) (fun _ => ?_)
  · try rw [to_N ok h_v0]
    first | rw [lf_No_sumOfRow ok N _ _ _ h_v0] | erw [lf_No_sumOfRow ok N _ _ _ h_v0]
    refine km_call (fun r165 s165 => ?_)
    first | rw [tg_N_8 ok h_v0, Option.bind_some] | rw [Option.bind_some]
    try rw [lf_Fr_whole]
    refine km_callP (fun r172 => ?_)
    try rw [lf_Fr_inverse]
    refine km_callP (fun r175 => ?_)
    try rw [lf_Fr_times]
    refine km_callP (fun r178 => ?_)
    rfl
  refine km_ite (fun _ => ?_) (fun _ => ?_)
  · try rw [to_N ok h_v0]
    first | rw [lf_No_greatestOfRow ok N _ _ _ h_v0] | erw [lf_No_greatestOfRow ok N _ _ _ h_v0]
    refine km_call (fun r184 s184 => ?_)
    refine km_ite (fun _ => ?_) (fun _ => ?_)
    · first | rw [tg_N_4 ok h_v0, Option.bind_some] | rw [Option.bind_some]
      refine km_bindR (fun j202 e202 => ?_)
      have b202 := (ok.2.2.2.2.2 _ h_v0 4) j202 e202
      first | rw [tg_N_9 ok b202, Option.bind_some] | rw [Option.bind_some]
      rw [Option.bind_some]
      try rw [tl_9 ok b202]
      refine km_bind (fun x207 => ?_)
      exact lb_No_reckonCell_208 ok N _ _
    · exact lb_No_reckonCell_208 ok N _ _
  refine km_ite (fun _ => ?_) (fun _ => ?_)
  · rfl
  refine km_ite (fun _ => ?_) (fun _ => ?_)
  · rfl
  refine km_ite (fun _ => ?_) (fun _ => ?_)
  · try rw [lf_Fr_minus]
    refine km_callP (fun r210 => ?_)
    rfl
  refine km_ite (fun _ => ?_) (fun _ => ?_)
  · try rw [lf_Fr_sign]
    refine km_callP (fun r215 => ?_)
    refine km_ite (fun _ => ?_) (fun _ => ?_)
    · exact lb_No_reckonCell_226 ok N _ _
    · exact lb_No_reckonCell_226 ok N _ _
  refine km_ite (fun _ => ?_) (fun _ => ?_)
  · try rw [lf_Fr_sign]
    refine km_callP (fun r228 => ?_)
    refine km_ite (fun _ => ?_) (fun _ => ?_)
    · exact lb_No_reckonCell_242 ok N _ _
    · try rw [lf_Fr_minus]
      refine km_callP (fun r235 => ?_)
      exact lb_No_reckonCell_242 ok N _ _
  refine km_ite (fun _ => ?_) (fun _ => ?_)
  · try rw [lf_Fr_times]
    refine km_callP (fun r245 => ?_)
    rfl
  refine km_ite (fun _ => ?_) (fun _ => ?_)
  · rfl
  refine km_ite (fun _ => ?_) (fun _ => ?_)
  · try rw [to_N ok h_v0]
    first | rw [lf_No_sumOfRow ok N _ _ _ h_v0] | erw [lf_No_sumOfRow ok N _ _ _ h_v0]
    refine km_call (fun r159 s159 => ?_)
    rfl
  rfl
set_option maxHeartbeats 4000000 in
theorem lb_No_reckonCell_0 {Λ : tQ} {ρ : tR} {M : mv_M} (ok : t_ok Λ ρ M) (N : Nat) (τ : tS) (v0 : Nat) (v1 : Int32) (v2 : Int32) (h_v0 : v0 < t_n ρ) : jb_No_reckonCell_0 N (wT Λ ρ M τ) (t_A ρ v0 0) v1 v2 = (kb_No_reckonCell_0 N ρ τ v0 v1 v2).map (wqT Λ ρ M) := by
  unfold jb_No_reckonCell_0 kb_No_reckonCell_0
  first | rw [tg_N_4 ok h_v0, Option.bind_some] | rw [Option.bind_some]
  refine km_bindR (fun j4 e4 => ?_)
  have b4 := (ok.2.2.2.2.2 _ h_v0 4) j4 e4
  first | rw [tg_N_9 ok b4, Option.bind_some] | rw [Option.bind_some]
  rw [Option.bind_some]
  try rw [tl_9 ok b4]
  refine km_bind (fun x8 => ?_)
  first | rw [tg_N_5 ok h_v0, Option.bind_some] | rw [Option.bind_some]
  refine km_optT (fun _ => ?_) (fun j14 e14 => ?_)
  · exact lb_No_reckonCell_30 ok N _ _ _ _ _ _ h_v0
  · have b14 := (ok.2.2.2.2.2 _ h_v0 5) j14 e14
    first | rw [tg_N_5 ok h_v0, Option.bind_some] | rw [Option.bind_some]
    refine km_bindR (fun j25 e25 => ?_)
    have b25 := (ok.2.2.2.2.2 _ h_v0 5) j25 e25
    first | rw [tg_N_9 ok b25, Option.bind_some] | rw [Option.bind_some]
    rw [Option.bind_some]
    try rw [tl_9 ok b25]
    refine km_bind (fun x29 => ?_)
    exact lb_No_reckonCell_30 ok N _ _ _ _ _ _ h_v0
theorem lf_No_reckonCell {Λ : tQ} {ρ : tR} {M : mv_M} (ok : t_ok Λ ρ M) (N : Nat) (τ : tS) (v0 : Nat) (v1 : Int32) (v2 : Int32) (h_v0 : v0 < t_n ρ) : jf_No_reckonCell N (wT Λ ρ M τ) (t_A ρ v0 0) v1 v2 = (kf_No_reckonCell N ρ τ v0 v1 v2).map (wqT Λ ρ M) := lb_No_reckonCell_0 ok N τ v0 v1 v2 h_v0
/-! ===== PlainLearner$Node.walk(Z)V ===== -/
def kb_No_walk_14 (N : Nat) (ρ : tR) (τ : tS) : Option (Unit × tS) :=
  some ((), τ)
def kb_No_walk_129 (N : Nat) (ρ : tR) (c19 : tS → Nat → Int32 → Int32 → Int32 → Option (Unit × tS)) (c33 : tS → Nat → Int32 → Int32 → Int32 → Int32 → Option (Unit × tS)) (c48 : tS → Nat → Int32 → Int32 → Int32 → Int32 → Int32 → Option (Unit × tS)) (τ : tS) (v0 : Nat) (v1 : Int32) (v2 : Int32) (v3 : Int32) (v4 : Int32) (v5 : Int32) : Option (Unit × tS) :=
  c48 τ v0 v1 (v2 + 1) v3 v4 (v5 + 1)
def kb_No_walk_97 (N : Nat) (ρ : tR) (c19 : tS → Nat → Int32 → Int32 → Int32 → Option (Unit × tS)) (c33 : tS → Nat → Int32 → Int32 → Int32 → Int32 → Option (Unit × tS)) (c48 : tS → Nat → Int32 → Int32 → Int32 → Int32 → Int32 → Option (Unit × tS)) (τ : tS) (v0 : Nat) (v1 : Int32) (v2 : Int32) (v3 : Int32) (v4 : Int32) (v5 : Int32) (v6 : Int32) (s0 : Int32) : Option (Unit × tS) :=
  if v1 = 0 then (kk_call (kf_No_reckonCell N ρ τ v0 v6 s0) fun r125 s125 =>
  mj_gd v2 (t_len ρ v0) <| kk_let (tV s125 v0 9 v2.toNatClampNeg r125) fun s128 =>
  kb_No_walk_129 N ρ c19 c33 c48 s128 v0 v1 v2 v3 v4 v5) else
  kk_call (kf_No_giveCell N ρ τ v0 v2 v6 s0) fun r109 s109 =>
  kb_No_walk_129 N ρ c19 c33 c48 s109 v0 v1 v2 v3 v4 v5
def kb_No_walk_48 (N : Nat) (ρ : tR) (c19 : tS → Nat → Int32 → Int32 → Int32 → Option (Unit × tS)) (c33 : tS → Nat → Int32 → Int32 → Int32 → Int32 → Option (Unit × tS)) : Nat → tS → Nat → Int32 → Int32 → Int32 → Int32 → Int32 → Option (Unit × tS)
  | 0, _, _, _, _, _, _, _ => none
  | n + 1, τ, v0, v1, v2, v3, v4, v5 =>
    if (t_H ρ v0 3) ≤ v5 then (c33 τ v0 v1 v2 v3 (v4 + 1)) else
    Option.bind (t_W ρ v0 6) fun w69 =>
    kk_call (kf_Vw_at N ρ τ w69 v3 v4 v5) fun r69 s69 =>
    tk_opt (t_W ρ v0 7) (kb_No_walk_97 N ρ c19 c33 (kb_No_walk_48 N ρ c19 c33 n) s69 v0 v1 v2 v3 v4 v5 r69 0) fun w78 =>
    Option.bind (t_W ρ v0 7) fun w94 =>
    kk_call (kf_Vw_at N ρ s69 w94 v3 v4 v5) fun r94 s94 =>
    kb_No_walk_97 N ρ c19 c33 (kb_No_walk_48 N ρ c19 c33 n) s94 v0 v1 v2 v3 v4 v5 r69 r94
def kb_No_walk_33 (N : Nat) (ρ : tR) (c19 : tS → Nat → Int32 → Int32 → Int32 → Option (Unit × tS)) : Nat → tS → Nat → Int32 → Int32 → Int32 → Int32 → Option (Unit × tS)
  | 0, _, _, _, _, _, _ => none
  | n + 1, τ, v0, v1, v2, v3, v4 =>
    if (t_H ρ v0 2) ≤ v4 then (c19 τ v0 v1 v2 (v3 + 1)) else
    kb_No_walk_48 N ρ c19 (kb_No_walk_33 N ρ c19 n) N τ v0 v1 v2 v3 v4 0
def kb_No_walk_19 (N : Nat) (ρ : tR) : Nat → tS → Nat → Int32 → Int32 → Int32 → Option (Unit × tS)
  | 0, _, _, _, _, _ => none
  | n + 1, τ, v0, v1, v2, v3 =>
    if (t_H ρ v0 1) ≤ v3 then (some ((), τ)) else
    kb_No_walk_33 N ρ (kb_No_walk_19 N ρ n) N τ v0 v1 v2 v3 0
def kb_No_walk_0 (N : Nat) (ρ : tR) (τ : tS) (v0 : Nat) (v1 : Int32) : Option (Unit × tS) :=
  tk_opt (t_R ρ v0 4) (kb_No_walk_14 N ρ τ) fun j4 =>
  tk_opt (t_W ρ v0 6) (kb_No_walk_14 N ρ τ) fun w11 =>
  kb_No_walk_19 N ρ N τ v0 v1 0 0
def kf_No_walk (N : Nat) (ρ : tR) (τ : tS) (v0 : Nat) (v1 : Int32) : Option (Unit × tS) := kb_No_walk_0 N ρ τ v0 v1
set_option maxHeartbeats 4000000 in
theorem lb_No_walk_14 {Λ : tQ} {ρ : tR} {M : mv_M} (ok : t_ok Λ ρ M) (N : Nat) (τ : tS) : jb_No_walk_14 N (wT Λ ρ M τ) = (kb_No_walk_14 N ρ τ).map (wqT Λ ρ M) := by
  unfold jb_No_walk_14 kb_No_walk_14
  rfl
set_option maxHeartbeats 4000000 in
theorem lb_No_walk_129 {Λ : tQ} {ρ : tR} {M : mv_M} (ok : t_ok Λ ρ M) (N : Nat) (k19 : mv_M → Nat → Int32 → Int32 → Int32 → Option (Unit × mv_M)) (c19 : tS → Nat → Int32 → Int32 → Int32 → Option (Unit × tS)) (k33 : mv_M → Nat → Int32 → Int32 → Int32 → Int32 → Option (Unit × mv_M)) (c33 : tS → Nat → Int32 → Int32 → Int32 → Int32 → Option (Unit × tS)) (k48 : mv_M → Nat → Int32 → Int32 → Int32 → Int32 → Int32 → Option (Unit × mv_M)) (c48 : tS → Nat → Int32 → Int32 → Int32 → Int32 → Int32 → Option (Unit × tS)) (hc19 : ∀ (τ : tS) (v0 : Nat) (v1 : Int32) (v2 : Int32) (v3 : Int32) (h_v0 : v0 < t_n ρ), k19 (wT Λ ρ M τ) (t_A ρ v0 0) v1 v2 v3 = (c19 τ v0 v1 v2 v3).map (wqT Λ ρ M)) (hc33 : ∀ (τ : tS) (v0 : Nat) (v1 : Int32) (v2 : Int32) (v3 : Int32) (v4 : Int32) (h_v0 : v0 < t_n ρ), k33 (wT Λ ρ M τ) (t_A ρ v0 0) v1 v2 v3 v4 = (c33 τ v0 v1 v2 v3 v4).map (wqT Λ ρ M)) (hc48 : ∀ (τ : tS) (v0 : Nat) (v1 : Int32) (v2 : Int32) (v3 : Int32) (v4 : Int32) (v5 : Int32) (h_v0 : v0 < t_n ρ), k48 (wT Λ ρ M τ) (t_A ρ v0 0) v1 v2 v3 v4 v5 = (c48 τ v0 v1 v2 v3 v4 v5).map (wqT Λ ρ M)) (τ : tS) (v0 : Nat) (v1 : Int32) (v2 : Int32) (v3 : Int32) (v4 : Int32) (v5 : Int32) (h_v0 : v0 < t_n ρ) : jb_No_walk_129 N k19 k33 k48 (wT Λ ρ M τ) (t_A ρ v0 0) v1 v2 v3 v4 v5 = (kb_No_walk_129 N ρ c19 c33 c48 τ v0 v1 v2 v3 v4 v5).map (wqT Λ ρ M) := by
  unfold jb_No_walk_129 kb_No_walk_129
  exact hc48 _ _ _ _ _ _ _ h_v0
set_option maxHeartbeats 4000000 in
theorem lb_No_walk_97 {Λ : tQ} {ρ : tR} {M : mv_M} (ok : t_ok Λ ρ M) (N : Nat) (k19 : mv_M → Nat → Int32 → Int32 → Int32 → Option (Unit × mv_M)) (c19 : tS → Nat → Int32 → Int32 → Int32 → Option (Unit × tS)) (k33 : mv_M → Nat → Int32 → Int32 → Int32 → Int32 → Option (Unit × mv_M)) (c33 : tS → Nat → Int32 → Int32 → Int32 → Int32 → Option (Unit × tS)) (k48 : mv_M → Nat → Int32 → Int32 → Int32 → Int32 → Int32 → Option (Unit × mv_M)) (c48 : tS → Nat → Int32 → Int32 → Int32 → Int32 → Int32 → Option (Unit × tS)) (hc19 : ∀ (τ : tS) (v0 : Nat) (v1 : Int32) (v2 : Int32) (v3 : Int32) (h_v0 : v0 < t_n ρ), k19 (wT Λ ρ M τ) (t_A ρ v0 0) v1 v2 v3 = (c19 τ v0 v1 v2 v3).map (wqT Λ ρ M)) (hc33 : ∀ (τ : tS) (v0 : Nat) (v1 : Int32) (v2 : Int32) (v3 : Int32) (v4 : Int32) (h_v0 : v0 < t_n ρ), k33 (wT Λ ρ M τ) (t_A ρ v0 0) v1 v2 v3 v4 = (c33 τ v0 v1 v2 v3 v4).map (wqT Λ ρ M)) (hc48 : ∀ (τ : tS) (v0 : Nat) (v1 : Int32) (v2 : Int32) (v3 : Int32) (v4 : Int32) (v5 : Int32) (h_v0 : v0 < t_n ρ), k48 (wT Λ ρ M τ) (t_A ρ v0 0) v1 v2 v3 v4 v5 = (c48 τ v0 v1 v2 v3 v4 v5).map (wqT Λ ρ M)) (τ : tS) (v0 : Nat) (v1 : Int32) (v2 : Int32) (v3 : Int32) (v4 : Int32) (v5 : Int32) (v6 : Int32) (s0 : Int32) (h_v0 : v0 < t_n ρ) : jb_No_walk_97 N k19 k33 k48 (wT Λ ρ M τ) (t_A ρ v0 0) v1 v2 v3 v4 v5 v6 s0 = (kb_No_walk_97 N ρ c19 c33 c48 τ v0 v1 v2 v3 v4 v5 v6 s0).map (wqT Λ ρ M) := by
  unfold jb_No_walk_97 kb_No_walk_97
  refine km_ite (fun _ => ?_) (fun _ => ?_)
  · first | rw [tg_N_9 ok h_v0, Option.bind_some] | rw [Option.bind_some]
    try rw [to_N ok h_v0]
    first | rw [lf_No_reckonCell ok N _ _ _ _ h_v0] | erw [lf_No_reckonCell ok N _ _ _ _ h_v0]
    refine km_call (fun r125 s125 => ?_)
    rw [Option.bind_some]
    rw [tx_9 ok h_v0]
    refine km_gd (fun _ => ?_)
    refine km_let ?_
    exact lb_No_walk_129 ok N _ _ _ _ _ _ hc19 hc33 hc48 _ _ _ _ _ _ _ h_v0
  · try rw [to_N ok h_v0]
    first | rw [lf_No_giveCell ok N _ _ _ _ _ h_v0] | erw [lf_No_giveCell ok N _ _ _ _ _ h_v0]
    refine km_call (fun r109 s109 => ?_)
    exact lb_No_walk_129 ok N _ _ _ _ _ _ hc19 hc33 hc48 _ _ _ _ _ _ _ h_v0
set_option maxHeartbeats 4000000 in
theorem lb_No_walk_48 {Λ : tQ} {ρ : tR} {M : mv_M} (ok : t_ok Λ ρ M) (N : Nat) (k19 : mv_M → Nat → Int32 → Int32 → Int32 → Option (Unit × mv_M)) (c19 : tS → Nat → Int32 → Int32 → Int32 → Option (Unit × tS)) (k33 : mv_M → Nat → Int32 → Int32 → Int32 → Int32 → Option (Unit × mv_M)) (c33 : tS → Nat → Int32 → Int32 → Int32 → Int32 → Option (Unit × tS)) (hc19 : ∀ (τ : tS) (v0 : Nat) (v1 : Int32) (v2 : Int32) (v3 : Int32) (h_v0 : v0 < t_n ρ), k19 (wT Λ ρ M τ) (t_A ρ v0 0) v1 v2 v3 = (c19 τ v0 v1 v2 v3).map (wqT Λ ρ M)) (hc33 : ∀ (τ : tS) (v0 : Nat) (v1 : Int32) (v2 : Int32) (v3 : Int32) (v4 : Int32) (h_v0 : v0 < t_n ρ), k33 (wT Λ ρ M τ) (t_A ρ v0 0) v1 v2 v3 v4 = (c33 τ v0 v1 v2 v3 v4).map (wqT Λ ρ M)) : ∀ (n : Nat) (τ : tS) (v0 : Nat) (v1 : Int32) (v2 : Int32) (v3 : Int32) (v4 : Int32) (v5 : Int32) (h_v0 : v0 < t_n ρ), jb_No_walk_48 N k19 k33 n (wT Λ ρ M τ) (t_A ρ v0 0) v1 v2 v3 v4 v5 = (kb_No_walk_48 N ρ c19 c33 n τ v0 v1 v2 v3 v4 v5).map (wqT Λ ρ M) := by
  intro n
  induction n with
  | zero => intros; rfl
  | succ n ih =>
    intro τ v0 v1 v2 v3 v4 v5 h_v0
    rw [jb_No_walk_48, kb_No_walk_48]
    first | rw [tg_N_0 ok h_v0, Option.bind_some] | rw [Option.bind_some]
    rw [Option.bind_some]
    first | rw [tg_S_3 ok h_v0, Option.bind_some] | rw [Option.bind_some]
    refine km_ite (fun _ => ?_) (fun _ => ?_)
    · exact hc33 _ _ _ _ _ _ h_v0
    · first | rw [tg_N_6 ok h_v0, Option.bind_some] | rw [Option.bind_some]
      refine km_bindR (fun w69 e69 => ?_)
      try rw [to_V ok h_v0 e69]
      first | rw [lf_Vw_at ok h_v0 e69 N _ _ _ _] | erw [lf_Vw_at ok h_v0 e69 N _ _ _ _]
      refine km_call (fun r69 s69 => ?_)
      first | rw [tg_N_7 ok h_v0, Option.bind_some] | rw [Option.bind_some]
      refine km_optT (fun _ => ?_) (fun w78 e78 => ?_)
      · exact lb_No_walk_97 ok N _ _ _ _ _ _ hc19 hc33 ih _ _ _ _ _ _ _ _ _ h_v0
      · first | rw [tg_N_7 ok h_v0, Option.bind_some] | rw [Option.bind_some]
        refine km_bindR (fun w94 e94 => ?_)
        try rw [to_V ok h_v0 e94]
        first | rw [lf_Vw_at ok h_v0 e94 N _ _ _ _] | erw [lf_Vw_at ok h_v0 e94 N _ _ _ _]
        refine km_call (fun r94 s94 => ?_)
        exact lb_No_walk_97 ok N _ _ _ _ _ _ hc19 hc33 ih _ _ _ _ _ _ _ _ _ h_v0
set_option maxHeartbeats 4000000 in
theorem lb_No_walk_33 {Λ : tQ} {ρ : tR} {M : mv_M} (ok : t_ok Λ ρ M) (N : Nat) (k19 : mv_M → Nat → Int32 → Int32 → Int32 → Option (Unit × mv_M)) (c19 : tS → Nat → Int32 → Int32 → Int32 → Option (Unit × tS)) (hc19 : ∀ (τ : tS) (v0 : Nat) (v1 : Int32) (v2 : Int32) (v3 : Int32) (h_v0 : v0 < t_n ρ), k19 (wT Λ ρ M τ) (t_A ρ v0 0) v1 v2 v3 = (c19 τ v0 v1 v2 v3).map (wqT Λ ρ M)) : ∀ (n : Nat) (τ : tS) (v0 : Nat) (v1 : Int32) (v2 : Int32) (v3 : Int32) (v4 : Int32) (h_v0 : v0 < t_n ρ), jb_No_walk_33 N k19 n (wT Λ ρ M τ) (t_A ρ v0 0) v1 v2 v3 v4 = (kb_No_walk_33 N ρ c19 n τ v0 v1 v2 v3 v4).map (wqT Λ ρ M) := by
  intro n
  induction n with
  | zero => intros; rfl
  | succ n ih =>
    intro τ v0 v1 v2 v3 v4 h_v0
    rw [jb_No_walk_33, kb_No_walk_33]
    first | rw [tg_N_0 ok h_v0, Option.bind_some] | rw [Option.bind_some]
    rw [Option.bind_some]
    first | rw [tg_S_2 ok h_v0, Option.bind_some] | rw [Option.bind_some]
    refine km_ite (fun _ => ?_) (fun _ => ?_)
    · exact hc19 _ _ _ _ _ h_v0
    · exact lb_No_walk_48 ok N _ _ _ _ hc19 ih N _ _ _ _ _ _ _ h_v0
set_option maxHeartbeats 4000000 in
theorem lb_No_walk_19 {Λ : tQ} {ρ : tR} {M : mv_M} (ok : t_ok Λ ρ M) (N : Nat) : ∀ (n : Nat) (τ : tS) (v0 : Nat) (v1 : Int32) (v2 : Int32) (v3 : Int32) (h_v0 : v0 < t_n ρ), jb_No_walk_19 N n (wT Λ ρ M τ) (t_A ρ v0 0) v1 v2 v3 = (kb_No_walk_19 N ρ n τ v0 v1 v2 v3).map (wqT Λ ρ M) := by
  intro n
  induction n with
  | zero => intros; rfl
  | succ n ih =>
    intro τ v0 v1 v2 v3 h_v0
    rw [jb_No_walk_19, kb_No_walk_19]
    first | rw [tg_N_0 ok h_v0, Option.bind_some] | rw [Option.bind_some]
    rw [Option.bind_some]
    first | rw [tg_S_1 ok h_v0, Option.bind_some] | rw [Option.bind_some]
    refine km_ite (fun _ => ?_) (fun _ => ?_)
    · rfl
    · exact lb_No_walk_33 ok N _ _ ih N _ _ _ _ _ _ h_v0
set_option maxHeartbeats 4000000 in
theorem lb_No_walk_0 {Λ : tQ} {ρ : tR} {M : mv_M} (ok : t_ok Λ ρ M) (N : Nat) (τ : tS) (v0 : Nat) (v1 : Int32) (h_v0 : v0 < t_n ρ) : jb_No_walk_0 N (wT Λ ρ M τ) (t_A ρ v0 0) v1 = (kb_No_walk_0 N ρ τ v0 v1).map (wqT Λ ρ M) := by
  unfold jb_No_walk_0 kb_No_walk_0
  first | rw [tg_N_4 ok h_v0, Option.bind_some] | rw [Option.bind_some]
  refine km_optT (fun _ => ?_) (fun j4 e4 => ?_)
  · exact lb_No_walk_14 ok N _
  · have b4 := (ok.2.2.2.2.2 _ h_v0 4) j4 e4
    first | rw [tg_N_6 ok h_v0, Option.bind_some] | rw [Option.bind_some]
    refine km_optT (fun _ => ?_) (fun w11 e11 => ?_)
    · exact lb_No_walk_14 ok N _
    · exact lb_No_walk_19 ok N N _ _ _ _ _ h_v0
theorem lf_No_walk {Λ : tQ} {ρ : tR} {M : mv_M} (ok : t_ok Λ ρ M) (N : Nat) (τ : tS) (v0 : Nat) (v1 : Int32) (h_v0 : v0 < t_n ρ) : jf_No_walk N (wT Λ ρ M τ) (t_A ρ v0 0) v1 = (kf_No_walk N ρ τ v0 v1).map (wqT Λ ρ M) := lb_No_walk_0 ok N τ v0 v1 h_v0
/-! ===== PlainLearner$Tape.find(I)LPlainLearner$Node; ===== -/
def kb_Tp_find_22 (N : Nat) (ρ : tR) (τ : tS) (s0 : Option Nat) : Option (Option Nat × tS) :=
  some (s0, τ)
def kb_Tp_find_12 (N : Nat) (ρ : tR) (τ : tS) : Option (Option Nat × tS) :=
  kb_Tp_find_22 N ρ τ none
def kb_Tp_find_0 (N : Nat) (ρ : tR) (τ : tS) (v1 : Int32) : Option (Option Nat × tS) :=
  if v1 < 0 then (kb_Tp_find_12 N ρ τ) else
  if v1 < (τ.1 1) then (Option.bind (tk_node (t_n ρ) v1) fun r21 =>
  kb_Tp_find_22 N ρ τ r21) else
  kb_Tp_find_12 N ρ τ
def kf_Tp_find (N : Nat) (ρ : tR) (τ : tS) (v1 : Int32) : Option (Option Nat × tS) := kb_Tp_find_0 N ρ τ v1
set_option maxHeartbeats 4000000 in
theorem lb_Tp_find_22 {Λ : tQ} {ρ : tR} {M : mv_M} (ok : t_ok Λ ρ M) (N : Nat) (τ : tS) (s0 : Option Nat) (h_s0 : ∀ j, s0 = some j → j < t_n ρ) : jb_Tp_find_22 N (wT Λ ρ M τ) (s0.map (fun j => t_A ρ j 0)) = (kb_Tp_find_22 N ρ τ s0).map (wqR Λ ρ M) := by
  unfold jb_Tp_find_22 kb_Tp_find_22
  rfl
set_option maxHeartbeats 4000000 in
theorem lb_Tp_find_12 {Λ : tQ} {ρ : tR} {M : mv_M} (ok : t_ok Λ ρ M) (N : Nat) (τ : tS) : jb_Tp_find_12 N (wT Λ ρ M τ) = (kb_Tp_find_12 N ρ τ).map (wqR Λ ρ M) := by
  unfold jb_Tp_find_12 kb_Tp_find_12
  exact lb_Tp_find_22 ok N _ _ tk_nn
set_option maxHeartbeats 4000000 in
theorem lb_Tp_find_0 {Λ : tQ} {ρ : tR} {M : mv_M} (ok : t_ok Λ ρ M) (N : Nat) (τ : tS) (v1 : Int32) : jb_Tp_find_0 N (wT Λ ρ M τ) Λ.1 v1 = (kb_Tp_find_0 N ρ τ v1).map (wqR Λ ρ M) := by
  unfold jb_Tp_find_0 kb_Tp_find_0
  refine km_ite (fun _ => ?_) (fun _ => ?_)
  · exact lb_Tp_find_12 ok N _
  · first | rw [tg_T_1, Option.bind_some] | rw [Option.bind_some]
    refine km_ite (fun _ => ?_) (fun _ => ?_)
    · first | rw [tg_T_0, Option.bind_some] | rw [Option.bind_some]
      rw [Option.bind_some]
      try rw [tl_nodes ok]
      refine km_bindN (fun r21 q21 => ?_)
      exact lb_Tp_find_22 ok N _ _ (tk_node_lt q21)
    · exact lb_Tp_find_12 ok N _
theorem lf_Tp_find {Λ : tQ} {ρ : tR} {M : mv_M} (ok : t_ok Λ ρ M) (N : Nat) (τ : tS) (v1 : Int32) : jf_Tp_find N (wT Λ ρ M τ) Λ.1 v1 = (kf_Tp_find N ρ τ v1).map (wqR Λ ρ M) := lb_Tp_find_0 ok N τ v1
theorem tf_Tp_find_lt {N : Nat} {ρ : tR} {τ s : tS} {v1 : Int32} {r : Option Nat} (h : kf_Tp_find N ρ τ v1 = some (r, s)) : ∀ j, r = some j → j < t_n ρ := by
  unfold kf_Tp_find kb_Tp_find_0 kb_Tp_find_12 kb_Tp_find_22 at h
  split at h
  · cases h; intro j hj; cases hj
  · split at h
    · obtain ⟨q, hq, h2⟩ := mj_bindE h
      cases h2
      exact tk_node_lt hq
    · cases h; intro j hj; cases hj

/-! ===== PlainLearner$Tape.findLeaf(I)LPlainLearner$Node; ===== -/
def kb_Tp_findLeaf_22 (N : Nat) (ρ : tR) (τ : tS) (s0 : Option Nat) : Option (Option Nat × tS) :=
  some (s0, τ)
def kb_Tp_findLeaf_17 (N : Nat) (ρ : tR) (τ : tS) : Option (Option Nat × tS) :=
  kb_Tp_findLeaf_22 N ρ τ none
def kb_Tp_findLeaf_0 (N : Nat) (ρ : tR) (τ : tS) (v1 : Int32) : Option (Option Nat × tS) :=
  kk_call (kf_Tp_find N ρ τ v1) fun r2 s2 =>
  tk_opt r2 (kb_Tp_findLeaf_17 N ρ s2) fun j7 =>
  kk_call (kf_No_isLeaf N ρ s2 j7) fun r11 s11 =>
  if r11 = 0 then (kb_Tp_findLeaf_17 N ρ s11) else
  kb_Tp_findLeaf_22 N ρ s11 (some j7)
def kf_Tp_findLeaf (N : Nat) (ρ : tR) (τ : tS) (v1 : Int32) : Option (Option Nat × tS) := kb_Tp_findLeaf_0 N ρ τ v1
set_option maxHeartbeats 4000000 in
theorem lb_Tp_findLeaf_22 {Λ : tQ} {ρ : tR} {M : mv_M} (ok : t_ok Λ ρ M) (N : Nat) (τ : tS) (s0 : Option Nat) (h_s0 : ∀ j, s0 = some j → j < t_n ρ) : jb_Tp_findLeaf_22 N (wT Λ ρ M τ) (s0.map (fun j => t_A ρ j 0)) = (kb_Tp_findLeaf_22 N ρ τ s0).map (wqR Λ ρ M) := by
  unfold jb_Tp_findLeaf_22 kb_Tp_findLeaf_22
  rfl
set_option maxHeartbeats 4000000 in
theorem lb_Tp_findLeaf_17 {Λ : tQ} {ρ : tR} {M : mv_M} (ok : t_ok Λ ρ M) (N : Nat) (τ : tS) : jb_Tp_findLeaf_17 N (wT Λ ρ M τ) = (kb_Tp_findLeaf_17 N ρ τ).map (wqR Λ ρ M) := by
  unfold jb_Tp_findLeaf_17 kb_Tp_findLeaf_17
  exact lb_Tp_findLeaf_22 ok N _ _ tk_nn
set_option maxHeartbeats 4000000 in
theorem lb_Tp_findLeaf_0 {Λ : tQ} {ρ : tR} {M : mv_M} (ok : t_ok Λ ρ M) (N : Nat) (τ : tS) (v1 : Int32) : jb_Tp_findLeaf_0 N (wT Λ ρ M τ) Λ.1 v1 = (kb_Tp_findLeaf_0 N ρ τ v1).map (wqR Λ ρ M) := by
  unfold jb_Tp_findLeaf_0 kb_Tp_findLeaf_0
  try rw [to_T]
  first | rw [lf_Tp_find ok N _ _] | erw [lf_Tp_find ok N _ _]
  refine km_callR (fun r2 s2 q2 => ?_)
  refine km_optT (fun _ => ?_) (fun j7 e7 => ?_)
  · exact lb_Tp_findLeaf_17 ok N _
  · have b7 := (tf_Tp_find_lt q2) j7 e7
    try rw [to_N ok b7]
    first | rw [lf_No_isLeaf ok N _ _ b7] | erw [lf_No_isLeaf ok N _ _ b7]
    refine km_call (fun r11 s11 => ?_)
    refine km_ite (fun _ => ?_) (fun _ => ?_)
    · exact lb_Tp_findLeaf_17 ok N _
    · exact lb_Tp_findLeaf_22 ok N _ _ (tk_ns b7)
theorem lf_Tp_findLeaf {Λ : tQ} {ρ : tR} {M : mv_M} (ok : t_ok Λ ρ M) (N : Nat) (τ : tS) (v1 : Int32) : jf_Tp_findLeaf N (wT Λ ρ M τ) Λ.1 v1 = (kf_Tp_findLeaf N ρ τ v1).map (wqR Λ ρ M) := lb_Tp_findLeaf_0 ok N τ v1
theorem tf_Tp_findLeaf_lt {N : Nat} {ρ : tR} {τ s : tS} {v1 : Int32} {r : Option Nat} (h : kf_Tp_findLeaf N ρ τ v1 = some (r, s)) : ∀ j, r = some j → j < t_n ρ := by
  unfold kf_Tp_findLeaf kb_Tp_findLeaf_0 kb_Tp_findLeaf_17 kb_Tp_findLeaf_22 at h
  obtain ⟨q, s2, hq, h2⟩ := kk_callE h
  cases q with
  | none => cases h2; intro j hj; cases hj
  | some j7 =>
    simp only [tk_opt] at h2
    obtain ⟨q2, s3, hq2, h3⟩ := kk_callE h2
    split at h3
    · cases h3; intro j hj; cases hj
    · cases h3; intro j hj; exact tf_Tp_find_lt hq j hj

/-! ===== PlainLearner$Tape.tellCell(IIJ)I ===== -/
def kb_Tp_tellCell_21 (N : Nat) (ρ : tR) (τ : tS) : Option (Int32 × tS) :=
  some ((-1), τ)
def kb_Tp_tellCell_56 (N : Nat) (ρ : tR) (τ : tS) (s0 : Int32) : Option (Int32 × tS) :=
  some (s0, τ)
def kb_Tp_tellCell_0 (N : Nat) (ρ : tR) (τ : tS) (v1 : Int32) (v2 : Int32) (v3 : Int64) : Option (Int32 × tS) :=
  kk_call (kf_Tp_findLeaf N ρ τ v1) fun r2 s2 =>
  tk_opt r2 (kb_Tp_tellCell_21 N ρ s2) fun j9 =>
  kk_call (kf_No_hasCell N ρ s2 j9 v2) fun r15 s15 =>
  if r15 = 0 then (kb_Tp_tellCell_21 N ρ s15) else
  mj_gd v2 (t_len ρ j9) <| kk_let (tV s15 j9 9 v2.toNatClampNeg v3) fun s30 =>
  Option.bind (kf_Jm_min0 N (s30.1 3) (v1 + 1)) fun r39 =>
  kk_let (tI s30 3 r39) fun s42 =>
  if (lg_cmp v3 0) = 0 then (kb_Tp_tellCell_56 N ρ s42 1) else
  kb_Tp_tellCell_56 N ρ s42 0
def kf_Tp_tellCell (N : Nat) (ρ : tR) (τ : tS) (v1 : Int32) (v2 : Int32) (v3 : Int64) : Option (Int32 × tS) := kb_Tp_tellCell_0 N ρ τ v1 v2 v3
set_option maxHeartbeats 4000000 in
theorem lb_Tp_tellCell_21 {Λ : tQ} {ρ : tR} {M : mv_M} (ok : t_ok Λ ρ M) (N : Nat) (τ : tS) : jb_Tp_tellCell_21 N (wT Λ ρ M τ) = (kb_Tp_tellCell_21 N ρ τ).map (wqT Λ ρ M) := by
  unfold jb_Tp_tellCell_21 kb_Tp_tellCell_21
  rfl
set_option maxHeartbeats 4000000 in
theorem lb_Tp_tellCell_56 {Λ : tQ} {ρ : tR} {M : mv_M} (ok : t_ok Λ ρ M) (N : Nat) (τ : tS) (s0 : Int32) : jb_Tp_tellCell_56 N (wT Λ ρ M τ) s0 = (kb_Tp_tellCell_56 N ρ τ s0).map (wqT Λ ρ M) := by
  unfold jb_Tp_tellCell_56 kb_Tp_tellCell_56
  rfl
set_option maxHeartbeats 4000000 in
theorem lb_Tp_tellCell_0 {Λ : tQ} {ρ : tR} {M : mv_M} (ok : t_ok Λ ρ M) (N : Nat) (τ : tS) (v1 : Int32) (v2 : Int32) (v3 : Int64) : jb_Tp_tellCell_0 N (wT Λ ρ M τ) Λ.1 v1 v2 v3 = (kb_Tp_tellCell_0 N ρ τ v1 v2 v3).map (wqT Λ ρ M) := by
  unfold jb_Tp_tellCell_0 kb_Tp_tellCell_0
  try rw [to_T]
  first | rw [lf_Tp_findLeaf ok N _ _] | erw [lf_Tp_findLeaf ok N _ _]
  refine km_callR (fun r2 s2 q2 => ?_)
  refine km_optT (fun _ => ?_) (fun j9 e9 => ?_)
  · exact lb_Tp_tellCell_21 ok N _
  · have b9 := (tf_Tp_findLeaf_lt q2) j9 e9
    try rw [to_N ok b9]
    first | rw [lf_No_hasCell ok N _ _ _ b9] | erw [lf_No_hasCell ok N _ _ _ b9]
    refine km_call (fun r15 s15 => ?_)
    refine km_ite (fun _ => ?_) (fun _ => ?_)
    · exact lb_Tp_tellCell_21 ok N _
    · first | rw [tg_N_9 ok b9, Option.bind_some] | rw [Option.bind_some]
      rw [Option.bind_some]
      rw [tx_9 ok b9]
      refine km_gd (fun _ => ?_)
      refine km_let ?_
      first | rw [tg_T_3, Option.bind_some] | rw [Option.bind_some]
      try rw [lf_Jm_min0]
      refine km_callP (fun r39 => ?_)
      rw [tp_T_3 ok, Option.bind_some]
      refine km_let ?_
      refine km_ite (fun _ => ?_) (fun _ => ?_)
      · exact lb_Tp_tellCell_56 ok N _ _
      · exact lb_Tp_tellCell_56 ok N _ _
theorem lf_Tp_tellCell {Λ : tQ} {ρ : tR} {M : mv_M} (ok : t_ok Λ ρ M) (N : Nat) (τ : tS) (v1 : Int32) (v2 : Int32) (v3 : Int64) : jf_Tp_tellCell N (wT Λ ρ M τ) Λ.1 v1 v2 v3 = (kf_Tp_tellCell N ρ τ v1 v2 v3).map (wqT Λ ρ M) := lb_Tp_tellCell_0 ok N τ v1 v2 v3
/-! ===== PlainLearner$Tape.markParameter(IZ)I ===== -/
def kb_Tp_markParameter_24 (N : Nat) (ρ : tR) (τ : tS) (v2 : Int32) (v3 : Option Nat) (s0 : Int32) : Option (Int32 × tS) :=
  Option.bind v3 fun j28 =>
  mj_zz v2 <|
  kk_let (tN τ j28 11 v2) fun s28 =>
  some (s0, s28)
def kb_Tp_markParameter_0 (N : Nat) (ρ : tR) (τ : tS) (v1 : Int32) (v2 : Int32) : Option (Int32 × tS) :=
  kk_call (kf_Tp_findLeaf N ρ τ v1) fun r2 s2 =>
  tk_opt r2 (some ((-1), s2)) fun j7 =>
  if (s2.2.2.1 j7 11) = 0 then (kb_Tp_markParameter_24 N ρ s2 v2 (some j7) 0) else
  kb_Tp_markParameter_24 N ρ s2 v2 (some j7) 1
def kf_Tp_markParameter (N : Nat) (ρ : tR) (τ : tS) (v1 : Int32) (v2 : Int32) : Option (Int32 × tS) := kb_Tp_markParameter_0 N ρ τ v1 v2
set_option maxHeartbeats 4000000 in
theorem lb_Tp_markParameter_24 {Λ : tQ} {ρ : tR} {M : mv_M} (ok : t_ok Λ ρ M) (N : Nat) (τ : tS) (v2 : Int32) (v3 : Option Nat) (s0 : Int32) (h_v3 : ∀ j, v3 = some j → j < t_n ρ) : jb_Tp_markParameter_24 N (wT Λ ρ M τ) v2 (v3.map (fun j => t_A ρ j 0)) s0 = (kb_Tp_markParameter_24 N ρ τ v2 v3 s0).map (wqT Λ ρ M) := by
  unfold jb_Tp_markParameter_24 kb_Tp_markParameter_24
  refine km_bindR (fun j28 e28 => ?_)
  have b28 := h_v3 j28 e28
  refine km_zz (fun _ => ?_)
  rw [tp_N_11 ok b28, Option.bind_some]
  refine km_let ?_
  rfl
set_option maxHeartbeats 4000000 in
theorem lb_Tp_markParameter_0 {Λ : tQ} {ρ : tR} {M : mv_M} (ok : t_ok Λ ρ M) (N : Nat) (τ : tS) (v1 : Int32) (v2 : Int32) : jb_Tp_markParameter_0 N (wT Λ ρ M τ) Λ.1 v1 v2 = (kb_Tp_markParameter_0 N ρ τ v1 v2).map (wqT Λ ρ M) := by
  unfold jb_Tp_markParameter_0 kb_Tp_markParameter_0
  try rw [to_T]
  first | rw [lf_Tp_findLeaf ok N _ _] | erw [lf_Tp_findLeaf ok N _ _]
  refine km_callR (fun r2 s2 q2 => ?_)
  refine km_optT (fun _ => ?_) (fun j7 e7 => ?_)
  · rfl
  · have b7 := (tf_Tp_findLeaf_lt q2) j7 e7
    first | rw [tg_N_11 ok b7, Option.bind_some] | rw [Option.bind_some]
    refine km_ite (fun _ => ?_) (fun _ => ?_)
    · exact lb_Tp_markParameter_24 ok N _ _ _ _ (tk_ns b7)
    · exact lb_Tp_markParameter_24 ok N _ _ _ _ (tk_ns b7)
theorem lf_Tp_markParameter {Λ : tQ} {ρ : tR} {M : mv_M} (ok : t_ok Λ ρ M) (N : Nat) (τ : tS) (v1 : Int32) (v2 : Int32) : jf_Tp_markParameter N (wT Λ ρ M τ) Λ.1 v1 v2 = (kf_Tp_markParameter N ρ τ v1 v2).map (wqT Λ ρ M) := lb_Tp_markParameter_0 ok N τ v1 v2
/-! ===== PlainLearner$Tape.countParameters()I ===== -/
def kb_Tp_countParameters_27 (N : Nat) (ρ : tR) (c4 : tS → Int32 → Int32 → Option (Int32 × tS)) (τ : tS) (v1 : Int32) (v2 : Int32) : Option (Int32 × tS) :=
  c4 τ v1 (v2 + 1)
def kb_Tp_countParameters_4 (N : Nat) (ρ : tR) : Nat → tS → Int32 → Int32 → Option (Int32 × tS)
  | 0, _, _, _ => none
  | n + 1, τ, v1, v2 =>
    if (τ.1 1) ≤ v2 then (some (v1, τ)) else
    Option.bind (tk_node (t_n ρ) v2) fun r17 =>
    Option.bind r17 fun j18 =>
    if (τ.2.2.1 j18 11) = 0 then (kb_Tp_countParameters_27 N ρ (kb_Tp_countParameters_4 N ρ n) τ v1 v2) else
    kb_Tp_countParameters_27 N ρ (kb_Tp_countParameters_4 N ρ n) τ (v1 + 1) v2
def kb_Tp_countParameters_0 (N : Nat) (ρ : tR) (τ : tS) : Option (Int32 × tS) :=
  kb_Tp_countParameters_4 N ρ N τ 0 0
def kf_Tp_countParameters (N : Nat) (ρ : tR) (τ : tS) : Option (Int32 × tS) := kb_Tp_countParameters_0 N ρ τ
set_option maxHeartbeats 4000000 in
theorem lb_Tp_countParameters_27 {Λ : tQ} {ρ : tR} {M : mv_M} (ok : t_ok Λ ρ M) (N : Nat) (k4 : mv_M → Nat → Int32 → Int32 → Option (Int32 × mv_M)) (c4 : tS → Int32 → Int32 → Option (Int32 × tS)) (hc4 : ∀ (τ : tS) (v1 : Int32) (v2 : Int32), k4 (wT Λ ρ M τ) Λ.1 v1 v2 = (c4 τ v1 v2).map (wqT Λ ρ M)) (τ : tS) (v1 : Int32) (v2 : Int32) : jb_Tp_countParameters_27 N k4 (wT Λ ρ M τ) Λ.1 v1 v2 = (kb_Tp_countParameters_27 N ρ c4 τ v1 v2).map (wqT Λ ρ M) := by
  unfold jb_Tp_countParameters_27 kb_Tp_countParameters_27
  exact hc4 _ _ _
set_option maxHeartbeats 4000000 in
theorem lb_Tp_countParameters_4 {Λ : tQ} {ρ : tR} {M : mv_M} (ok : t_ok Λ ρ M) (N : Nat) : ∀ (n : Nat) (τ : tS) (v1 : Int32) (v2 : Int32), jb_Tp_countParameters_4 N n (wT Λ ρ M τ) Λ.1 v1 v2 = (kb_Tp_countParameters_4 N ρ n τ v1 v2).map (wqT Λ ρ M) := by
  intro n
  induction n with
  | zero => intros; rfl
  | succ n ih =>
    intro τ v1 v2
    rw [jb_Tp_countParameters_4, kb_Tp_countParameters_4]
    first | rw [tg_T_1, Option.bind_some] | rw [Option.bind_some]
    refine km_ite (fun _ => ?_) (fun _ => ?_)
    · rfl
    · first | rw [tg_T_0, Option.bind_some] | rw [Option.bind_some]
      rw [Option.bind_some]
      try rw [tl_nodes ok]
      refine km_bindN (fun r17 q17 => ?_)
      refine km_bindR (fun j18 e18 => ?_)
      have b18 := (tk_node_lt q17) j18 e18
      first | rw [tg_N_11 ok b18, Option.bind_some] | rw [Option.bind_some]
      refine km_ite (fun _ => ?_) (fun _ => ?_)
      · exact lb_Tp_countParameters_27 ok N _ _ ih _ _ _
      · exact lb_Tp_countParameters_27 ok N _ _ ih _ _ _
set_option maxHeartbeats 4000000 in
theorem lb_Tp_countParameters_0 {Λ : tQ} {ρ : tR} {M : mv_M} (ok : t_ok Λ ρ M) (N : Nat) (τ : tS) : jb_Tp_countParameters_0 N (wT Λ ρ M τ) Λ.1 = (kb_Tp_countParameters_0 N ρ τ).map (wqT Λ ρ M) := by
  unfold jb_Tp_countParameters_0 kb_Tp_countParameters_0
  exact lb_Tp_countParameters_4 ok N N _ _ _
theorem lf_Tp_countParameters {Λ : tQ} {ρ : tR} {M : mv_M} (ok : t_ok Λ ρ M) (N : Nat) (τ : tS) : jf_Tp_countParameters N (wT Λ ρ M τ) Λ.1 = (kf_Tp_countParameters N ρ τ).map (wqT Λ ρ M) := lb_Tp_countParameters_0 ok N τ
/-! ===== PlainLearner$Tape.reckonUpTo(I)V ===== -/
def kb_Tp_reckonUpTo_34 (N : Nat) (ρ : tR) (τ : tS) (v1 : Int32) : Option (Unit × tS) :=
  Option.bind (kf_Jm_max N (τ.1 3) (v1 + 1)) fun r42 =>
  kk_let (tI τ 3 r42) fun s45 =>
  some ((), s45)
def kb_Tp_reckonUpTo_5 (N : Nat) (ρ : tR) : Nat → tS → Int32 → Int32 → Option (Unit × tS)
  | 0, _, _, _ => none
  | n + 1, τ, v1, v2 =>
    if v1 < v2 then (kb_Tp_reckonUpTo_34 N ρ τ v1) else
    if (τ.1 1) ≤ v2 then (kb_Tp_reckonUpTo_34 N ρ τ v1) else
    Option.bind (tk_node (t_n ρ) v2) fun r23 =>
    Option.bind r23 fun j25 =>
    kk_call (kf_No_walk N ρ τ j25 0) fun r25 s25 =>
    kb_Tp_reckonUpTo_5 N ρ n s25 v1 (v2 + 1)
def kb_Tp_reckonUpTo_0 (N : Nat) (ρ : tR) (τ : tS) (v1 : Int32) : Option (Unit × tS) :=
  kb_Tp_reckonUpTo_5 N ρ N τ v1 (τ.1 3)
def kf_Tp_reckonUpTo (N : Nat) (ρ : tR) (τ : tS) (v1 : Int32) : Option (Unit × tS) := kb_Tp_reckonUpTo_0 N ρ τ v1
set_option maxHeartbeats 4000000 in
theorem lb_Tp_reckonUpTo_34 {Λ : tQ} {ρ : tR} {M : mv_M} (ok : t_ok Λ ρ M) (N : Nat) (τ : tS) (v1 : Int32) : jb_Tp_reckonUpTo_34 N (wT Λ ρ M τ) Λ.1 v1 = (kb_Tp_reckonUpTo_34 N ρ τ v1).map (wqT Λ ρ M) := by
  unfold jb_Tp_reckonUpTo_34 kb_Tp_reckonUpTo_34
  first | rw [tg_T_3, Option.bind_some] | rw [Option.bind_some]
  try rw [lf_Jm_max]
  refine km_callP (fun r42 => ?_)
  rw [tp_T_3 ok, Option.bind_some]
  refine km_let ?_
  rfl
set_option maxHeartbeats 4000000 in
theorem lb_Tp_reckonUpTo_5 {Λ : tQ} {ρ : tR} {M : mv_M} (ok : t_ok Λ ρ M) (N : Nat) : ∀ (n : Nat) (τ : tS) (v1 : Int32) (v2 : Int32), jb_Tp_reckonUpTo_5 N n (wT Λ ρ M τ) Λ.1 v1 v2 = (kb_Tp_reckonUpTo_5 N ρ n τ v1 v2).map (wqT Λ ρ M) := by
  intro n
  induction n with
  | zero => intros; rfl
  | succ n ih =>
    intro τ v1 v2
    rw [jb_Tp_reckonUpTo_5, kb_Tp_reckonUpTo_5]
    refine km_ite (fun _ => ?_) (fun _ => ?_)
    · exact lb_Tp_reckonUpTo_34 ok N _ _
    · first | rw [tg_T_1, Option.bind_some] | rw [Option.bind_some]
      refine km_ite (fun _ => ?_) (fun _ => ?_)
      · exact lb_Tp_reckonUpTo_34 ok N _ _
      · first | rw [tg_T_0, Option.bind_some] | rw [Option.bind_some]
        rw [Option.bind_some]
        try rw [tl_nodes ok]
        refine km_bindN (fun r23 q23 => ?_)
        refine km_bindR (fun j25 e25 => ?_)
        have b25 := (tk_node_lt q23) j25 e25
        try rw [to_N ok b25]
        first | rw [lf_No_walk ok N _ _ _ b25] | erw [lf_No_walk ok N _ _ _ b25]
        refine km_call (fun r25 s25 => ?_)
        exact ih _ _ _
set_option maxHeartbeats 4000000 in
theorem lb_Tp_reckonUpTo_0 {Λ : tQ} {ρ : tR} {M : mv_M} (ok : t_ok Λ ρ M) (N : Nat) (τ : tS) (v1 : Int32) : jb_Tp_reckonUpTo_0 N (wT Λ ρ M τ) Λ.1 v1 = (kb_Tp_reckonUpTo_0 N ρ τ v1).map (wqT Λ ρ M) := by
  unfold jb_Tp_reckonUpTo_0 kb_Tp_reckonUpTo_0
  first | rw [tg_T_3, Option.bind_some] | rw [Option.bind_some]
  exact lb_Tp_reckonUpTo_5 ok N N _ _ _
theorem lf_Tp_reckonUpTo {Λ : tQ} {ρ : tR} {M : mv_M} (ok : t_ok Λ ρ M) (N : Nat) (τ : tS) (v1 : Int32) : jf_Tp_reckonUpTo N (wT Λ ρ M τ) Λ.1 v1 = (kf_Tp_reckonUpTo N ρ τ v1).map (wqT Λ ρ M) := lb_Tp_reckonUpTo_0 ok N τ v1
/-! ===== java/util/Arrays.fill for Ja_fill1_A10 ===== -/
def kb_Ja_fill1_A10_6 (N : Nat) (ρ : tR) : Nat → tS → Nat → Int64 → Int32 → Int32 → Option (Unit × tS)
  | 0, _, _, _, _, _ => none
  | n + 1, τ, v0, v1, v3, v4 =>
    if v4 ≤ v3 then (some ((), τ)) else
    mj_gd v3 (t_len ρ v0) <| kk_let (tV τ v0 10 v3.toNatClampNeg v1) fun s15 =>
    kb_Ja_fill1_A10_6 N ρ n s15 v0 v1 (v3 + 1) v4
def kb_Ja_fill1_A10_0 (N : Nat) (ρ : tR) (τ : tS) (v0 : Nat) (v1 : Int64) : Option (Unit × tS) :=
  kb_Ja_fill1_A10_6 N ρ N τ v0 v1 0 (Int32.ofNat (t_len ρ v0))
def kf_Ja_fill1_A10 (N : Nat) (ρ : tR) (τ : tS) (v0 : Nat) (v1 : Int64) : Option (Unit × tS) := kb_Ja_fill1_A10_0 N ρ τ v0 v1
set_option maxHeartbeats 4000000 in
theorem lb_Ja_fill1_A10_6 {Λ : tQ} {ρ : tR} {M : mv_M} (ok : t_ok Λ ρ M) (N : Nat) : ∀ (n : Nat) (τ : tS) (v0 : Nat) (v1 : Int64) (v3 : Int32) (v4 : Int32) (h_v0 : v0 < t_n ρ), jb_Ja_fill1_6 N n (wT Λ ρ M τ) (some (t_A ρ v0 2)) v1 v3 v4 = (kb_Ja_fill1_A10_6 N ρ n τ v0 v1 v3 v4).map (wqT Λ ρ M) := by
  intro n
  induction n with
  | zero => intros; rfl
  | succ n ih =>
    intro τ v0 v1 v3 v4 h_v0
    rw [jb_Ja_fill1_6, kb_Ja_fill1_A10_6]
    refine km_ite (fun _ => ?_) (fun _ => ?_)
    · rfl
    · rw [Option.bind_some]
      rw [tx_10 ok h_v0]
      refine km_gd (fun _ => ?_)
      refine km_let ?_
      exact ih _ _ _ _ _ h_v0
set_option maxHeartbeats 4000000 in
theorem lb_Ja_fill1_A10_0 {Λ : tQ} {ρ : tR} {M : mv_M} (ok : t_ok Λ ρ M) (N : Nat) (τ : tS) (v0 : Nat) (v1 : Int64) (h_v0 : v0 < t_n ρ) : jb_Ja_fill1_0 N (wT Λ ρ M τ) (some (t_A ρ v0 2)) v1 = (kb_Ja_fill1_A10_0 N ρ τ v0 v1).map (wqT Λ ρ M) := by
  unfold jb_Ja_fill1_0 kb_Ja_fill1_A10_0
  rw [Option.bind_some]
  first | rw [tn_10 ok h_v0, Option.bind_some] | rw [Option.bind_some]
  exact lb_Ja_fill1_A10_6 ok N N _ _ _ _ _ h_v0
theorem lf_Ja_fill1_A10 {Λ : tQ} {ρ : tR} {M : mv_M} (ok : t_ok Λ ρ M) (N : Nat) (τ : tS) (v0 : Nat) (v1 : Int64) (h_v0 : v0 < t_n ρ) : jf_Ja_fill1 N (wT Λ ρ M τ) (some (t_A ρ v0 2)) v1 = (kf_Ja_fill1_A10 N ρ τ v0 v1).map (wqT Λ ρ M) := lb_Ja_fill1_A10_0 ok N τ v0 v1 h_v0
/-! ===== PlainLearner$Tape.sumSlopes(II)V ===== -/
def kb_Tp_sumSlopes_42 (N : Nat) (ρ : tR) : Nat → tS → Int32 → Int32 → Option (Unit × tS)
  | 0, _, _, _ => none
  | n + 1, τ, v2, v3 =>
    if v3 ≤ v2 then (some ((), τ)) else
    Option.bind (tk_node (t_n ρ) v3) fun r52 =>
    Option.bind r52 fun j54 =>
    kk_call (kf_No_walk N ρ τ j54 1) fun r54 s54 =>
    kb_Tp_sumSlopes_42 N ρ n s54 v2 (v3 + (-1))
def kb_Tp_sumSlopes_31 (N : Nat) (ρ : tR) (c2 : tS → Int32 → Int32 → Int32 → Option (Unit × tS)) (τ : tS) (v1 : Int32) (v2 : Int32) (v3 : Int32) (s0 : Nat) (s1 : Int64) : Option (Unit × tS) :=
  kk_call (kf_Ja_fill1_A10 N ρ τ s0 s1) fun r31 s31 =>
  c2 s31 v1 v2 (v3 + 1)
def kb_Tp_sumSlopes_2 (N : Nat) (ρ : tR) : Nat → tS → Int32 → Int32 → Int32 → Option (Unit × tS)
  | 0, _, _, _, _ => none
  | n + 1, τ, v1, v2, v3 =>
    if (τ.1 1) ≤ v3 then (kb_Tp_sumSlopes_42 N ρ N τ v2 v1) else
    Option.bind (tk_node (t_n ρ) v3) fun r15 =>
    Option.bind r15 fun j16 =>
    if v3 = v1 then (kb_Tp_sumSlopes_31 N ρ (kb_Tp_sumSlopes_2 N ρ n) τ v1 v2 v3 j16 4294967297) else
    kb_Tp_sumSlopes_31 N ρ (kb_Tp_sumSlopes_2 N ρ n) τ v1 v2 v3 j16 1
def kb_Tp_sumSlopes_0 (N : Nat) (ρ : tR) (τ : tS) (v1 : Int32) (v2 : Int32) : Option (Unit × tS) :=
  kb_Tp_sumSlopes_2 N ρ N τ v1 v2 0
def kf_Tp_sumSlopes (N : Nat) (ρ : tR) (τ : tS) (v1 : Int32) (v2 : Int32) : Option (Unit × tS) := kb_Tp_sumSlopes_0 N ρ τ v1 v2
set_option maxHeartbeats 4000000 in
theorem lb_Tp_sumSlopes_42 {Λ : tQ} {ρ : tR} {M : mv_M} (ok : t_ok Λ ρ M) (N : Nat) : ∀ (n : Nat) (τ : tS) (v2 : Int32) (v3 : Int32), jb_Tp_sumSlopes_42 N n (wT Λ ρ M τ) Λ.1 v2 v3 = (kb_Tp_sumSlopes_42 N ρ n τ v2 v3).map (wqT Λ ρ M) := by
  intro n
  induction n with
  | zero => intros; rfl
  | succ n ih =>
    intro τ v2 v3
    rw [jb_Tp_sumSlopes_42, kb_Tp_sumSlopes_42]
    refine km_ite (fun _ => ?_) (fun _ => ?_)
    · rfl
    · first | rw [tg_T_0, Option.bind_some] | rw [Option.bind_some]
      rw [Option.bind_some]
      try rw [tl_nodes ok]
      refine km_bindN (fun r52 q52 => ?_)
      refine km_bindR (fun j54 e54 => ?_)
      have b54 := (tk_node_lt q52) j54 e54
      try rw [to_N ok b54]
      first | rw [lf_No_walk ok N _ _ _ b54] | erw [lf_No_walk ok N _ _ _ b54]
      refine km_call (fun r54 s54 => ?_)
      exact ih _ _ _
set_option maxHeartbeats 4000000 in
theorem lb_Tp_sumSlopes_31 {Λ : tQ} {ρ : tR} {M : mv_M} (ok : t_ok Λ ρ M) (N : Nat) (k2 : mv_M → Nat → Int32 → Int32 → Int32 → Option (Unit × mv_M)) (c2 : tS → Int32 → Int32 → Int32 → Option (Unit × tS)) (hc2 : ∀ (τ : tS) (v1 : Int32) (v2 : Int32) (v3 : Int32), k2 (wT Λ ρ M τ) Λ.1 v1 v2 v3 = (c2 τ v1 v2 v3).map (wqT Λ ρ M)) (τ : tS) (v1 : Int32) (v2 : Int32) (v3 : Int32) (s0 : Nat) (s1 : Int64) (h_s0 : s0 < t_n ρ) : jb_Tp_sumSlopes_31 N k2 (wT Λ ρ M τ) Λ.1 v1 v2 v3 (some (t_A ρ s0 2)) s1 = (kb_Tp_sumSlopes_31 N ρ c2 τ v1 v2 v3 s0 s1).map (wqT Λ ρ M) := by
  unfold jb_Tp_sumSlopes_31 kb_Tp_sumSlopes_31
  first | rw [lf_Ja_fill1_A10 ok N _ _ _ h_s0] | erw [lf_Ja_fill1_A10 ok N _ _ _ h_s0]
  refine km_call (fun r31 s31 => ?_)
  exact hc2 _ _ _ _
set_option maxHeartbeats 4000000 in
theorem lb_Tp_sumSlopes_2 {Λ : tQ} {ρ : tR} {M : mv_M} (ok : t_ok Λ ρ M) (N : Nat) : ∀ (n : Nat) (τ : tS) (v1 : Int32) (v2 : Int32) (v3 : Int32), jb_Tp_sumSlopes_2 N n (wT Λ ρ M τ) Λ.1 v1 v2 v3 = (kb_Tp_sumSlopes_2 N ρ n τ v1 v2 v3).map (wqT Λ ρ M) := by
  intro n
  induction n with
  | zero => intros; rfl
  | succ n ih =>
    intro τ v1 v2 v3
    rw [jb_Tp_sumSlopes_2, kb_Tp_sumSlopes_2]
    first | rw [tg_T_1, Option.bind_some] | rw [Option.bind_some]
    refine km_ite (fun _ => ?_) (fun _ => ?_)
    · exact lb_Tp_sumSlopes_42 ok N N _ _ _
    · first | rw [tg_T_0, Option.bind_some] | rw [Option.bind_some]
      rw [Option.bind_some]
      try rw [tl_nodes ok]
      refine km_bindN (fun r15 q15 => ?_)
      refine km_bindR (fun j16 e16 => ?_)
      have b16 := (tk_node_lt q15) j16 e16
      first | rw [tg_N_10 ok b16, Option.bind_some] | rw [Option.bind_some]
      refine km_ite (fun _ => ?_) (fun _ => ?_)
      · exact lb_Tp_sumSlopes_31 ok N _ _ ih _ _ _ _ _ _ b16
      · exact lb_Tp_sumSlopes_31 ok N _ _ ih _ _ _ _ _ _ b16
set_option maxHeartbeats 4000000 in
theorem lb_Tp_sumSlopes_0 {Λ : tQ} {ρ : tR} {M : mv_M} (ok : t_ok Λ ρ M) (N : Nat) (τ : tS) (v1 : Int32) (v2 : Int32) : jb_Tp_sumSlopes_0 N (wT Λ ρ M τ) Λ.1 v1 v2 = (kb_Tp_sumSlopes_0 N ρ τ v1 v2).map (wqT Λ ρ M) := by
  unfold jb_Tp_sumSlopes_0 kb_Tp_sumSlopes_0
  exact lb_Tp_sumSlopes_2 ok N N _ _ _ _
theorem lf_Tp_sumSlopes {Λ : tQ} {ρ : tR} {M : mv_M} (ok : t_ok Λ ρ M) (N : Nat) (τ : tS) (v1 : Int32) (v2 : Int32) : jf_Tp_sumSlopes N (wT Λ ρ M τ) Λ.1 v1 v2 = (kf_Tp_sumSlopes N ρ τ v1 v2).map (wqT Λ ρ M) := lb_Tp_sumSlopes_0 ok N τ v1 v2
/-! ===== PlainLearner$Tape.passPaths(LPlainLearner$Node;LPlainLearner$Node;)V ===== -/
def kb_Tp_passPaths_23 (N : Nat) (ρ : tR) (τ : tS) : Option (Unit × tS) :=
  some ((), τ)
def kb_Tp_passPaths_0 (N : Nat) (ρ : tR) (τ : tS) (v0 : Option Nat) (v1 : Option Nat) : Option (Unit × tS) :=
  tk_opt v1 (kb_Tp_passPaths_23 N ρ τ) fun j1 =>
  Option.bind v0 fun j13 =>
  Option.bind (kf_Jm_min1 N 1000000000000000000 ((τ.2.2.2.1 j1 12) + (τ.2.2.2.1 j13 12))) fun r17 =>
  kk_let (tP τ j1 12 r17) fun s20 =>
  kb_Tp_passPaths_23 N ρ s20
def kf_Tp_passPaths (N : Nat) (ρ : tR) (τ : tS) (v0 : Option Nat) (v1 : Option Nat) : Option (Unit × tS) := kb_Tp_passPaths_0 N ρ τ v0 v1
set_option maxHeartbeats 4000000 in
theorem lb_Tp_passPaths_23 {Λ : tQ} {ρ : tR} {M : mv_M} (ok : t_ok Λ ρ M) (N : Nat) (τ : tS) : jb_Tp_passPaths_23 N (wT Λ ρ M τ) = (kb_Tp_passPaths_23 N ρ τ).map (wqT Λ ρ M) := by
  unfold jb_Tp_passPaths_23 kb_Tp_passPaths_23
  rfl
set_option maxHeartbeats 4000000 in
theorem lb_Tp_passPaths_0 {Λ : tQ} {ρ : tR} {M : mv_M} (ok : t_ok Λ ρ M) (N : Nat) (τ : tS) (v0 : Option Nat) (v1 : Option Nat) (h_v0 : ∀ j, v0 = some j → j < t_n ρ) (h_v1 : ∀ j, v1 = some j → j < t_n ρ) : jb_Tp_passPaths_0 N (wT Λ ρ M τ) (v0.map (fun j => t_A ρ j 0)) (v1.map (fun j => t_A ρ j 0)) = (kb_Tp_passPaths_0 N ρ τ v0 v1).map (wqT Λ ρ M) := by
  unfold jb_Tp_passPaths_0 kb_Tp_passPaths_0
  refine km_optT (fun _ => ?_) (fun j1 e1 => ?_)
  · exact lb_Tp_passPaths_23 ok N _
  · have b1 := h_v1 j1 e1
    first | rw [tg_N_12 ok b1, Option.bind_some] | rw [Option.bind_some]
    refine km_bindR (fun j13 e13 => ?_)
    have b13 := h_v0 j13 e13
    first | rw [tg_N_12 ok b13, Option.bind_some] | rw [Option.bind_some]
    try rw [lf_Jm_min1]
    refine km_callP (fun r17 => ?_)
    rw [tp_N_12 ok b1, Option.bind_some]
    refine km_let ?_
    exact lb_Tp_passPaths_23 ok N _
theorem lf_Tp_passPaths {Λ : tQ} {ρ : tR} {M : mv_M} (ok : t_ok Λ ρ M) (N : Nat) (τ : tS) (v0 : Option Nat) (v1 : Option Nat) (h_v0 : ∀ j, v0 = some j → j < t_n ρ) (h_v1 : ∀ j, v1 = some j → j < t_n ρ) : jf_Tp_passPaths N (wT Λ ρ M τ) (v0.map (fun j => t_A ρ j 0)) (v1.map (fun j => t_A ρ j 0)) = (kf_Tp_passPaths N ρ τ v0 v1).map (wqT Λ ρ M) := lb_Tp_passPaths_0 ok N τ v0 v1 h_v0 h_v1
/-! ===== PlainLearner$Tape.countWays(II)J ===== -/
def kb_Tp_countWays_27 (N : Nat) (ρ : tR) (τ : tS) : Option (Int64 × tS) :=
  some ((-1), τ)
def kb_Tp_countWays_65 (N : Nat) (ρ : tR) : Nat → tS → Int32 → Option Nat → Int32 → Option (Int64 × tS)
  | 0, _, _, _, _ => none
  | n + 1, τ, v2, v4, v5 =>
    if v5 ≤ v2 then (Option.bind v4 fun j119 =>
    some ((τ.2.2.2.1 j119 12), τ)) else
    Option.bind (tk_node (t_n ρ) v5) fun r77 =>
    Option.bind (tk_node (t_n ρ) v5) fun r84 =>
    Option.bind r84 fun j85 =>
    kk_call (kf_Tp_passPaths N ρ τ r77 (t_R ρ j85 4)) fun r88 s88 =>
    Option.bind (tk_node (t_n ρ) v5) fun r97 =>
    Option.bind (tk_node (t_n ρ) v5) fun r104 =>
    Option.bind r104 fun j105 =>
    kk_call (kf_Tp_passPaths N ρ s88 r97 (t_R ρ j105 5)) fun r108 s108 =>
    kb_Tp_countWays_65 N ρ n s108 v2 v4 (v5 + (-1))
def kb_Tp_countWays_34 (N : Nat) (ρ : tR) : Nat → tS → Int32 → Int32 → Option Nat → Option Nat → Int32 → Option (Int64 × tS)
  | 0, _, _, _, _, _, _ => none
  | n + 1, τ, v1, v2, v3, v4, v5 =>
    if v1 < v5 then (Option.bind v3 fun j59 =>
    kk_let (tP τ j59 12 1) fun s59 =>
    kb_Tp_countWays_65 N ρ N s59 v2 v4 v1) else
    Option.bind (tk_node (t_n ρ) v5) fun r46 =>
    Option.bind r46 fun j48 =>
    kk_let (tP τ j48 12 0) fun s48 =>
    kb_Tp_countWays_34 N ρ n s48 v1 v2 v3 v4 (v5 + 1)
def kb_Tp_countWays_0 (N : Nat) (ρ : tR) (τ : tS) (v1 : Int32) (v2 : Int32) : Option (Int64 × tS) :=
  kk_call (kf_Tp_find N ρ τ v1) fun r2 s2 =>
  kk_call (kf_Tp_find N ρ s2 v2) fun r8 s8 =>
  tk_opt r2 (kb_Tp_countWays_27 N ρ s8) fun j14 =>
  tk_opt r8 (kb_Tp_countWays_27 N ρ s8) fun j19 =>
  if v2 ≤ v1 then (kb_Tp_countWays_34 N ρ N s8 v1 v2 (some j14) (some j19) 0) else
  kb_Tp_countWays_27 N ρ s8
def kf_Tp_countWays (N : Nat) (ρ : tR) (τ : tS) (v1 : Int32) (v2 : Int32) : Option (Int64 × tS) := kb_Tp_countWays_0 N ρ τ v1 v2
set_option maxHeartbeats 4000000 in
theorem lb_Tp_countWays_27 {Λ : tQ} {ρ : tR} {M : mv_M} (ok : t_ok Λ ρ M) (N : Nat) (τ : tS) : jb_Tp_countWays_27 N (wT Λ ρ M τ) = (kb_Tp_countWays_27 N ρ τ).map (wqT Λ ρ M) := by
  unfold jb_Tp_countWays_27 kb_Tp_countWays_27
  rfl
set_option maxHeartbeats 4000000 in
theorem lb_Tp_countWays_65 {Λ : tQ} {ρ : tR} {M : mv_M} (ok : t_ok Λ ρ M) (N : Nat) : ∀ (n : Nat) (τ : tS) (v2 : Int32) (v4 : Option Nat) (v5 : Int32) (h_v4 : ∀ j, v4 = some j → j < t_n ρ), jb_Tp_countWays_65 N n (wT Λ ρ M τ) Λ.1 v2 (v4.map (fun j => t_A ρ j 0)) v5 = (kb_Tp_countWays_65 N ρ n τ v2 v4 v5).map (wqT Λ ρ M) := by
  intro n
  induction n with
  | zero => intros; rfl
  | succ n ih =>
    intro τ v2 v4 v5 h_v4
    rw [jb_Tp_countWays_65, kb_Tp_countWays_65]
    refine km_ite (fun _ => ?_) (fun _ => ?_)
    · refine km_bindR (fun j119 e119 => ?_)
      have b119 := h_v4 j119 e119
      first | rw [tg_N_12 ok b119, Option.bind_some] | rw [Option.bind_some]
      rfl
    · first | rw [tg_T_0, Option.bind_some] | rw [Option.bind_some]
      rw [Option.bind_some]
      try rw [tl_nodes ok]
      refine km_bindN (fun r77 q77 => ?_)
      first | rw [tg_T_0, Option.bind_some] | rw [Option.bind_some]
      rw [Option.bind_some]
      try rw [tl_nodes ok]
      refine km_bindN (fun r84 q84 => ?_)
      refine km_bindR (fun j85 e85 => ?_)
      have b85 := (tk_node_lt q84) j85 e85
      first | rw [tg_N_4 ok b85, Option.bind_some] | rw [Option.bind_some]
      first | rw [lf_Tp_passPaths ok N _ _ _ (tk_node_lt q77) (ok.2.2.2.2.2 _ b85 4)] | erw [lf_Tp_passPaths ok N _ _ _ (tk_node_lt q77) (ok.2.2.2.2.2 _ b85 4)]
      refine km_call (fun r88 s88 => ?_)
      first | rw [tg_T_0, Option.bind_some] | rw [Option.bind_some]
      rw [Option.bind_some]
      try rw [tl_nodes ok]
      refine km_bindN (fun r97 q97 => ?_)
      first | rw [tg_T_0, Option.bind_some] | rw [Option.bind_some]
      rw [Option.bind_some]
      try rw [tl_nodes ok]
      refine km_bindN (fun r104 q104 => ?_)
      refine km_bindR (fun j105 e105 => ?_)
      have b105 := (tk_node_lt q104) j105 e105
      first | rw [tg_N_5 ok b105, Option.bind_some] | rw [Option.bind_some]
      first | rw [lf_Tp_passPaths ok N _ _ _ (tk_node_lt q97) (ok.2.2.2.2.2 _ b105 5)] | erw [lf_Tp_passPaths ok N _ _ _ (tk_node_lt q97) (ok.2.2.2.2.2 _ b105 5)]
      refine km_call (fun r108 s108 => ?_)
      exact ih _ _ _ _ h_v4
set_option maxHeartbeats 4000000 in
theorem lb_Tp_countWays_34 {Λ : tQ} {ρ : tR} {M : mv_M} (ok : t_ok Λ ρ M) (N : Nat) : ∀ (n : Nat) (τ : tS) (v1 : Int32) (v2 : Int32) (v3 : Option Nat) (v4 : Option Nat) (v5 : Int32) (h_v3 : ∀ j, v3 = some j → j < t_n ρ) (h_v4 : ∀ j, v4 = some j → j < t_n ρ), jb_Tp_countWays_34 N n (wT Λ ρ M τ) Λ.1 v1 v2 (v3.map (fun j => t_A ρ j 0)) (v4.map (fun j => t_A ρ j 0)) v5 = (kb_Tp_countWays_34 N ρ n τ v1 v2 v3 v4 v5).map (wqT Λ ρ M) := by
  intro n
  induction n with
  | zero => intros; rfl
  | succ n ih =>
    intro τ v1 v2 v3 v4 v5 h_v3 h_v4
    rw [jb_Tp_countWays_34, kb_Tp_countWays_34]
    refine km_ite (fun _ => ?_) (fun _ => ?_)
    · refine km_bindR (fun j59 e59 => ?_)
      have b59 := h_v3 j59 e59
      rw [tp_N_12 ok b59, Option.bind_some]
      refine km_let ?_
      exact lb_Tp_countWays_65 ok N N _ _ _ _ h_v4
    · first | rw [tg_T_0, Option.bind_some] | rw [Option.bind_some]
      rw [Option.bind_some]
      try rw [tl_nodes ok]
      refine km_bindN (fun r46 q46 => ?_)
      refine km_bindR (fun j48 e48 => ?_)
      have b48 := (tk_node_lt q46) j48 e48
      rw [tp_N_12 ok b48, Option.bind_some]
      refine km_let ?_
      exact ih _ _ _ _ _ _ h_v3 h_v4
set_option maxHeartbeats 4000000 in
theorem lb_Tp_countWays_0 {Λ : tQ} {ρ : tR} {M : mv_M} (ok : t_ok Λ ρ M) (N : Nat) (τ : tS) (v1 : Int32) (v2 : Int32) : jb_Tp_countWays_0 N (wT Λ ρ M τ) Λ.1 v1 v2 = (kb_Tp_countWays_0 N ρ τ v1 v2).map (wqT Λ ρ M) := by
  unfold jb_Tp_countWays_0 kb_Tp_countWays_0
  try rw [to_T]
  first | rw [lf_Tp_find ok N _ _] | erw [lf_Tp_find ok N _ _]
  refine km_callR (fun r2 s2 q2 => ?_)
  try rw [to_T]
  first | rw [lf_Tp_find ok N _ _] | erw [lf_Tp_find ok N _ _]
  refine km_callR (fun r8 s8 q8 => ?_)
  refine km_optT (fun _ => ?_) (fun j14 e14 => ?_)
  · exact lb_Tp_countWays_27 ok N _
  · have b14 := (tf_Tp_find_lt q2) j14 e14
    refine km_optT (fun _ => ?_) (fun j19 e19 => ?_)
    · exact lb_Tp_countWays_27 ok N _
    · have b19 := (tf_Tp_find_lt q8) j19 e19
      refine km_ite (fun _ => ?_) (fun _ => ?_)
      · exact lb_Tp_countWays_34 ok N N _ _ _ _ _ _ (tk_ns b14) (tk_ns b19)
      · exact lb_Tp_countWays_27 ok N _
theorem lf_Tp_countWays {Λ : tQ} {ρ : tR} {M : mv_M} (ok : t_ok Λ ρ M) (N : Nat) (τ : tS) (v1 : Int32) (v2 : Int32) : jf_Tp_countWays N (wT Λ ρ M τ) Λ.1 v1 v2 = (kf_Tp_countWays N ρ τ v1 v2).map (wqT Λ ρ M) := lb_Tp_countWays_0 ok N τ v1 v2
/-! ===== PlainLearner$Tape.moveParameters()V ===== -/
def kb_Tp_moveParameters_81 (N : Nat) (ρ : tR) (c2 : tS → Int32 → Option (Unit × tS)) (τ : tS) (v1 : Int32) : Option (Unit × tS) :=
  c2 τ (v1 + 1)
def kb_Tp_moveParameters_19 (N : Nat) (ρ : tR) (c2 : tS → Int32 → Option (Unit × tS)) : Nat → tS → Int32 → Option Nat → Int32 → Option (Unit × tS)
  | 0, _, _, _, _ => none
  | n + 1, τ, v1, v2, v3 =>
    Option.bind v2 fun j20 =>
    if (τ.2.2.1 j20 11) = 0 then (kb_Tp_moveParameters_81 N ρ c2 τ v1) else
    if (t_H ρ j20 4) ≤ v3 then (kb_Tp_moveParameters_81 N ρ c2 τ v1) else
    Option.bind (mj_tabL (τ.2.2.2.2 j20 10) (t_len ρ j20) v3) fun x46 =>
    Option.bind (kf_Fr_times N (τ.2.1 2) x46) fun r47 =>
    Option.bind (kf_Fr_minus N r47) fun r50 =>
    Option.bind (mj_tabL (τ.2.2.2.2 j20 9) (t_len ρ j20) v3) fun x65 =>
    Option.bind (kf_Fr_add N x65 r50) fun r68 =>
    Option.bind (kf_Fr_rounded N r68) fun r71 =>
    mj_gd v3 (t_len ρ j20) <| kk_let (tV τ j20 9 v3.toNatClampNeg r71) fun s74 =>
    kb_Tp_moveParameters_19 N ρ c2 n s74 v1 (some j20) (v3 + 1)
def kb_Tp_moveParameters_2 (N : Nat) (ρ : tR) : Nat → tS → Int32 → Option (Unit × tS)
  | 0, _, _ => none
  | n + 1, τ, v1 =>
    if (τ.1 1) ≤ v1 then (kk_let (tI τ 3 0) fun s89 =>
    some ((), s89)) else
    Option.bind (tk_node (t_n ρ) v1) fun r15 =>
    kb_Tp_moveParameters_19 N ρ (kb_Tp_moveParameters_2 N ρ n) N τ v1 r15 0
def kb_Tp_moveParameters_0 (N : Nat) (ρ : tR) (τ : tS) : Option (Unit × tS) :=
  kb_Tp_moveParameters_2 N ρ N τ 0
def kf_Tp_moveParameters (N : Nat) (ρ : tR) (τ : tS) : Option (Unit × tS) := kb_Tp_moveParameters_0 N ρ τ
set_option maxHeartbeats 4000000 in
theorem lb_Tp_moveParameters_81 {Λ : tQ} {ρ : tR} {M : mv_M} (ok : t_ok Λ ρ M) (N : Nat) (k2 : mv_M → Nat → Int32 → Option (Unit × mv_M)) (c2 : tS → Int32 → Option (Unit × tS)) (hc2 : ∀ (τ : tS) (v1 : Int32), k2 (wT Λ ρ M τ) Λ.1 v1 = (c2 τ v1).map (wqT Λ ρ M)) (τ : tS) (v1 : Int32) : jb_Tp_moveParameters_81 N k2 (wT Λ ρ M τ) Λ.1 v1 = (kb_Tp_moveParameters_81 N ρ c2 τ v1).map (wqT Λ ρ M) := by
  unfold jb_Tp_moveParameters_81 kb_Tp_moveParameters_81
  exact hc2 _ _
set_option maxHeartbeats 4000000 in
theorem lb_Tp_moveParameters_19 {Λ : tQ} {ρ : tR} {M : mv_M} (ok : t_ok Λ ρ M) (N : Nat) (k2 : mv_M → Nat → Int32 → Option (Unit × mv_M)) (c2 : tS → Int32 → Option (Unit × tS)) (hc2 : ∀ (τ : tS) (v1 : Int32), k2 (wT Λ ρ M τ) Λ.1 v1 = (c2 τ v1).map (wqT Λ ρ M)) : ∀ (n : Nat) (τ : tS) (v1 : Int32) (v2 : Option Nat) (v3 : Int32) (h_v2 : ∀ j, v2 = some j → j < t_n ρ), jb_Tp_moveParameters_19 N k2 n (wT Λ ρ M τ) Λ.1 v1 (v2.map (fun j => t_A ρ j 0)) v3 = (kb_Tp_moveParameters_19 N ρ c2 n τ v1 v2 v3).map (wqT Λ ρ M) := by
  intro n
  induction n with
  | zero => intros; rfl
  | succ n ih =>
    intro τ v1 v2 v3 h_v2
    rw [jb_Tp_moveParameters_19, kb_Tp_moveParameters_19]
    refine km_bindR (fun j20 e20 => ?_)
    have b20 := h_v2 j20 e20
    first | rw [tg_N_11 ok b20, Option.bind_some] | rw [Option.bind_some]
    refine km_ite (fun _ => ?_) (fun _ => ?_)
    · exact lb_Tp_moveParameters_81 ok N _ _ hc2 _ _
    · first | rw [tg_N_0 ok b20, Option.bind_some] | rw [Option.bind_some]
      rw [Option.bind_some]
      first | rw [tg_S_4 ok b20, Option.bind_some] | rw [Option.bind_some]
      refine km_ite (fun _ => ?_) (fun _ => ?_)
      · exact lb_Tp_moveParameters_81 ok N _ _ hc2 _ _
      · first | rw [tg_T_2, Option.bind_some] | rw [Option.bind_some]
        first | rw [tg_N_10 ok b20, Option.bind_some] | rw [Option.bind_some]
        rw [Option.bind_some]
        try rw [tl_10 ok b20]
        refine km_bind (fun x46 => ?_)
        try rw [lf_Fr_times]
        refine km_callP (fun r47 => ?_)
        try rw [lf_Fr_minus]
        refine km_callP (fun r50 => ?_)
        first | rw [tg_N_9 ok b20, Option.bind_some] | rw [Option.bind_some]
        first | rw [tg_N_9 ok b20, Option.bind_some] | rw [Option.bind_some]
        rw [Option.bind_some]
        try rw [tl_9 ok b20]
        refine km_bind (fun x65 => ?_)
        try rw [lf_Fr_add]
        refine km_callP (fun r68 => ?_)
        try rw [lf_Fr_rounded]
        refine km_callP (fun r71 => ?_)
        rw [Option.bind_some]
        rw [tx_9 ok b20]
        refine km_gd (fun _ => ?_)
        refine km_let ?_
        exact ih _ _ _ _ (tk_ns b20)
set_option maxHeartbeats 4000000 in
theorem lb_Tp_moveParameters_2 {Λ : tQ} {ρ : tR} {M : mv_M} (ok : t_ok Λ ρ M) (N : Nat) : ∀ (n : Nat) (τ : tS) (v1 : Int32), jb_Tp_moveParameters_2 N n (wT Λ ρ M τ) Λ.1 v1 = (kb_Tp_moveParameters_2 N ρ n τ v1).map (wqT Λ ρ M) := by
  intro n
  induction n with
  | zero => intros; rfl
  | succ n ih =>
    intro τ v1
    rw [jb_Tp_moveParameters_2, kb_Tp_moveParameters_2]
    first | rw [tg_T_1, Option.bind_some] | rw [Option.bind_some]
    refine km_ite (fun _ => ?_) (fun _ => ?_)
    · rw [tp_T_3 ok, Option.bind_some]
      refine km_let ?_
      rfl
    · first | rw [tg_T_0, Option.bind_some] | rw [Option.bind_some]
      rw [Option.bind_some]
      try rw [tl_nodes ok]
      refine km_bindN (fun r15 q15 => ?_)
      exact lb_Tp_moveParameters_19 ok N _ _ ih N _ _ _ _ (tk_node_lt q15)
set_option maxHeartbeats 4000000 in
theorem lb_Tp_moveParameters_0 {Λ : tQ} {ρ : tR} {M : mv_M} (ok : t_ok Λ ρ M) (N : Nat) (τ : tS) : jb_Tp_moveParameters_0 N (wT Λ ρ M τ) Λ.1 = (kb_Tp_moveParameters_0 N ρ τ).map (wqT Λ ρ M) := by
  unfold jb_Tp_moveParameters_0 kb_Tp_moveParameters_0
  exact lb_Tp_moveParameters_2 ok N N _ _
theorem lf_Tp_moveParameters {Λ : tQ} {ρ : tR} {M : mv_M} (ok : t_ok Λ ρ M) (N : Nat) (τ : tS) : jf_Tp_moveParameters N (wT Λ ρ M τ) Λ.1 = (kf_Tp_moveParameters N ρ τ).map (wqT Λ ρ M) := lb_Tp_moveParameters_0 ok N τ
/-! ===== PlainLearner$Tape.countWildCells()I ===== -/
def kb_Tp_countWildCells_62 (N : Nat) (ρ : tR) (c4 : tS → Int32 → Int32 → Option (Int32 × tS)) (τ : tS) (v1 : Int32) (v2 : Int32) : Option (Int32 × tS) :=
  c4 τ v1 (v2 + 1)
def kb_Tp_countWildCells_56 (N : Nat) (ρ : tR) (c4 : tS → Int32 → Int32 → Option (Int32 × tS)) (c22 : tS → Int32 → Int32 → Option Nat → Int32 → Option (Int32 × tS)) (τ : tS) (v1 : Int32) (v2 : Int32) (v3 : Option Nat) (v4 : Int32) : Option (Int32 × tS) :=
  c22 τ v1 v2 v3 (v4 + 1)
def kb_Tp_countWildCells_22 (N : Nat) (ρ : tR) (c4 : tS → Int32 → Int32 → Option (Int32 × tS)) : Nat → tS → Int32 → Int32 → Option Nat → Int32 → Option (Int32 × tS)
  | 0, _, _, _, _, _ => none
  | n + 1, τ, v1, v2, v3, v4 =>
    Option.bind v3 fun j23 =>
    if (τ.2.2.1 j23 11) = 0 then (kb_Tp_countWildCells_62 N ρ c4 τ v1 v2) else
    if (t_H ρ j23 4) ≤ v4 then (kb_Tp_countWildCells_62 N ρ c4 τ v1 v2) else
    Option.bind (mj_tabL (τ.2.2.2.2 j23 9) (t_len ρ j23) v4) fun x47 =>
    if (lg_cmp x47 0) = 0 then (kb_Tp_countWildCells_56 N ρ c4 (kb_Tp_countWildCells_22 N ρ c4 n) τ (v1 + 1) v2 (some j23) v4) else
    kb_Tp_countWildCells_56 N ρ c4 (kb_Tp_countWildCells_22 N ρ c4 n) τ v1 v2 (some j23) v4
def kb_Tp_countWildCells_4 (N : Nat) (ρ : tR) : Nat → tS → Int32 → Int32 → Option (Int32 × tS)
  | 0, _, _, _ => none
  | n + 1, τ, v1, v2 =>
    if (τ.1 1) ≤ v2 then (some (v1, τ)) else
    Option.bind (tk_node (t_n ρ) v2) fun r17 =>
    kb_Tp_countWildCells_22 N ρ (kb_Tp_countWildCells_4 N ρ n) N τ v1 v2 r17 0
def kb_Tp_countWildCells_0 (N : Nat) (ρ : tR) (τ : tS) : Option (Int32 × tS) :=
  kb_Tp_countWildCells_4 N ρ N τ 0 0
def kf_Tp_countWildCells (N : Nat) (ρ : tR) (τ : tS) : Option (Int32 × tS) := kb_Tp_countWildCells_0 N ρ τ
set_option maxHeartbeats 4000000 in
theorem lb_Tp_countWildCells_62 {Λ : tQ} {ρ : tR} {M : mv_M} (ok : t_ok Λ ρ M) (N : Nat) (k4 : mv_M → Nat → Int32 → Int32 → Option (Int32 × mv_M)) (c4 : tS → Int32 → Int32 → Option (Int32 × tS)) (hc4 : ∀ (τ : tS) (v1 : Int32) (v2 : Int32), k4 (wT Λ ρ M τ) Λ.1 v1 v2 = (c4 τ v1 v2).map (wqT Λ ρ M)) (τ : tS) (v1 : Int32) (v2 : Int32) : jb_Tp_countWildCells_62 N k4 (wT Λ ρ M τ) Λ.1 v1 v2 = (kb_Tp_countWildCells_62 N ρ c4 τ v1 v2).map (wqT Λ ρ M) := by
  unfold jb_Tp_countWildCells_62 kb_Tp_countWildCells_62
  exact hc4 _ _ _
set_option maxHeartbeats 4000000 in
theorem lb_Tp_countWildCells_56 {Λ : tQ} {ρ : tR} {M : mv_M} (ok : t_ok Λ ρ M) (N : Nat) (k4 : mv_M → Nat → Int32 → Int32 → Option (Int32 × mv_M)) (c4 : tS → Int32 → Int32 → Option (Int32 × tS)) (k22 : mv_M → Nat → Int32 → Int32 → Option Nat → Int32 → Option (Int32 × mv_M)) (c22 : tS → Int32 → Int32 → Option Nat → Int32 → Option (Int32 × tS)) (hc4 : ∀ (τ : tS) (v1 : Int32) (v2 : Int32), k4 (wT Λ ρ M τ) Λ.1 v1 v2 = (c4 τ v1 v2).map (wqT Λ ρ M)) (hc22 : ∀ (τ : tS) (v1 : Int32) (v2 : Int32) (v3 : Option Nat) (v4 : Int32) (h_v3 : ∀ j, v3 = some j → j < t_n ρ), k22 (wT Λ ρ M τ) Λ.1 v1 v2 (v3.map (fun j => t_A ρ j 0)) v4 = (c22 τ v1 v2 v3 v4).map (wqT Λ ρ M)) (τ : tS) (v1 : Int32) (v2 : Int32) (v3 : Option Nat) (v4 : Int32) (h_v3 : ∀ j, v3 = some j → j < t_n ρ) : jb_Tp_countWildCells_56 N k4 k22 (wT Λ ρ M τ) Λ.1 v1 v2 (v3.map (fun j => t_A ρ j 0)) v4 = (kb_Tp_countWildCells_56 N ρ c4 c22 τ v1 v2 v3 v4).map (wqT Λ ρ M) := by
  unfold jb_Tp_countWildCells_56 kb_Tp_countWildCells_56
  exact hc22 _ _ _ _ _ h_v3
set_option maxHeartbeats 4000000 in
theorem lb_Tp_countWildCells_22 {Λ : tQ} {ρ : tR} {M : mv_M} (ok : t_ok Λ ρ M) (N : Nat) (k4 : mv_M → Nat → Int32 → Int32 → Option (Int32 × mv_M)) (c4 : tS → Int32 → Int32 → Option (Int32 × tS)) (hc4 : ∀ (τ : tS) (v1 : Int32) (v2 : Int32), k4 (wT Λ ρ M τ) Λ.1 v1 v2 = (c4 τ v1 v2).map (wqT Λ ρ M)) : ∀ (n : Nat) (τ : tS) (v1 : Int32) (v2 : Int32) (v3 : Option Nat) (v4 : Int32) (h_v3 : ∀ j, v3 = some j → j < t_n ρ), jb_Tp_countWildCells_22 N k4 n (wT Λ ρ M τ) Λ.1 v1 v2 (v3.map (fun j => t_A ρ j 0)) v4 = (kb_Tp_countWildCells_22 N ρ c4 n τ v1 v2 v3 v4).map (wqT Λ ρ M) := by
  intro n
  induction n with
  | zero => intros; rfl
  | succ n ih =>
    intro τ v1 v2 v3 v4 h_v3
    rw [jb_Tp_countWildCells_22, kb_Tp_countWildCells_22]
    refine km_bindR (fun j23 e23 => ?_)
    have b23 := h_v3 j23 e23
    first | rw [tg_N_11 ok b23, Option.bind_some] | rw [Option.bind_some]
    refine km_ite (fun _ => ?_) (fun _ => ?_)
    · exact lb_Tp_countWildCells_62 ok N _ _ hc4 _ _ _
    · first | rw [tg_N_0 ok b23, Option.bind_some] | rw [Option.bind_some]
      rw [Option.bind_some]
      first | rw [tg_S_4 ok b23, Option.bind_some] | rw [Option.bind_some]
      refine km_ite (fun _ => ?_) (fun _ => ?_)
      · exact lb_Tp_countWildCells_62 ok N _ _ hc4 _ _ _
      · first | rw [tg_N_9 ok b23, Option.bind_some] | rw [Option.bind_some]
        rw [Option.bind_some]
        try rw [tl_9 ok b23]
        refine km_bind (fun x47 => ?_)
        refine km_ite (fun _ => ?_) (fun _ => ?_)
        · exact lb_Tp_countWildCells_56 ok N _ _ _ _ hc4 ih _ _ _ _ _ (tk_ns b23)
        · exact lb_Tp_countWildCells_56 ok N _ _ _ _ hc4 ih _ _ _ _ _ (tk_ns b23)
set_option maxHeartbeats 4000000 in
theorem lb_Tp_countWildCells_4 {Λ : tQ} {ρ : tR} {M : mv_M} (ok : t_ok Λ ρ M) (N : Nat) : ∀ (n : Nat) (τ : tS) (v1 : Int32) (v2 : Int32), jb_Tp_countWildCells_4 N n (wT Λ ρ M τ) Λ.1 v1 v2 = (kb_Tp_countWildCells_4 N ρ n τ v1 v2).map (wqT Λ ρ M) := by
  intro n
  induction n with
  | zero => intros; rfl
  | succ n ih =>
    intro τ v1 v2
    rw [jb_Tp_countWildCells_4, kb_Tp_countWildCells_4]
    first | rw [tg_T_1, Option.bind_some] | rw [Option.bind_some]
    refine km_ite (fun _ => ?_) (fun _ => ?_)
    · rfl
    · first | rw [tg_T_0, Option.bind_some] | rw [Option.bind_some]
      rw [Option.bind_some]
      try rw [tl_nodes ok]
      refine km_bindN (fun r17 q17 => ?_)
      exact lb_Tp_countWildCells_22 ok N _ _ ih N _ _ _ _ _ (tk_node_lt q17)
set_option maxHeartbeats 4000000 in
theorem lb_Tp_countWildCells_0 {Λ : tQ} {ρ : tR} {M : mv_M} (ok : t_ok Λ ρ M) (N : Nat) (τ : tS) : jb_Tp_countWildCells_0 N (wT Λ ρ M τ) Λ.1 = (kb_Tp_countWildCells_0 N ρ τ).map (wqT Λ ρ M) := by
  unfold jb_Tp_countWildCells_0 kb_Tp_countWildCells_0
  exact lb_Tp_countWildCells_4 ok N N _ _ _
theorem lf_Tp_countWildCells {Λ : tQ} {ρ : tR} {M : mv_M} (ok : t_ok Λ ρ M) (N : Nat) (τ : tS) : jf_Tp_countWildCells N (wT Λ ρ M τ) Λ.1 = (kf_Tp_countWildCells N ρ τ).map (wqT Λ ρ M) := lb_Tp_countWildCells_0 ok N τ
/-! ===== PlainLearner$Tape.trainSteps(II)I ===== -/
def kb_Tp_trainSteps_20 (N : Nat) (ρ : tR) (τ : tS) : Option (Int32 × tS) :=
  some ((-1), τ)
def kb_Tp_trainSteps_38 (N : Nat) (ρ : tR) : Nat → tS → Int32 → Int32 → Int32 → Option (Int32 × tS)
  | 0, _, _, _, _ => none
  | n + 1, τ, v1, v2, v4 =>
    if v2 ≤ v4 then (kk_call (kf_Tp_countWildCells N ρ τ ) fun r66 s66 =>
    some (r66, s66)) else
    kk_call (kf_Tp_reckonUpTo N ρ τ v1) fun r46 s46 =>
    kk_call (kf_Tp_sumSlopes N ρ s46 v1 0) fun r52 s52 =>
    kk_call (kf_Tp_moveParameters N ρ s52 ) fun r56 s56 =>
    kb_Tp_trainSteps_38 N ρ n s56 v1 v2 (v4 + 1)
def kb_Tp_trainSteps_0 (N : Nat) (ρ : tR) (τ : tS) (v1 : Int32) (v2 : Int32) : Option (Int32 × tS) :=
  kk_call (kf_Tp_find N ρ τ v1) fun r2 s2 =>
  tk_opt r2 (kb_Tp_trainSteps_20 N ρ s2) fun j7 =>
  if v2 < 0 then (kb_Tp_trainSteps_20 N ρ s2) else
  if v2 ≤ 20 then (if (t_H ρ j7 0) = 0 then (kb_Tp_trainSteps_38 N ρ N s2 v1 v2 0) else
  some ((-4), s2)) else
  kb_Tp_trainSteps_20 N ρ s2
def kf_Tp_trainSteps (N : Nat) (ρ : tR) (τ : tS) (v1 : Int32) (v2 : Int32) : Option (Int32 × tS) := kb_Tp_trainSteps_0 N ρ τ v1 v2
set_option maxHeartbeats 4000000 in
theorem lb_Tp_trainSteps_20 {Λ : tQ} {ρ : tR} {M : mv_M} (ok : t_ok Λ ρ M) (N : Nat) (τ : tS) : jb_Tp_trainSteps_20 N (wT Λ ρ M τ) = (kb_Tp_trainSteps_20 N ρ τ).map (wqT Λ ρ M) := by
  unfold jb_Tp_trainSteps_20 kb_Tp_trainSteps_20
  rfl
set_option maxHeartbeats 4000000 in
theorem lb_Tp_trainSteps_38 {Λ : tQ} {ρ : tR} {M : mv_M} (ok : t_ok Λ ρ M) (N : Nat) : ∀ (n : Nat) (τ : tS) (v1 : Int32) (v2 : Int32) (v4 : Int32), jb_Tp_trainSteps_38 N n (wT Λ ρ M τ) Λ.1 v1 v2 v4 = (kb_Tp_trainSteps_38 N ρ n τ v1 v2 v4).map (wqT Λ ρ M) := by
  intro n
  induction n with
  | zero => intros; rfl
  | succ n ih =>
    intro τ v1 v2 v4
    rw [jb_Tp_trainSteps_38, kb_Tp_trainSteps_38]
    refine km_ite (fun _ => ?_) (fun _ => ?_)
    · try rw [to_T]
      first | rw [lf_Tp_countWildCells ok N _] | erw [lf_Tp_countWildCells ok N _]
      refine km_call (fun r66 s66 => ?_)
      rfl
    · try rw [to_T]
      first | rw [lf_Tp_reckonUpTo ok N _ _] | erw [lf_Tp_reckonUpTo ok N _ _]
      refine km_call (fun r46 s46 => ?_)
      try rw [to_T]
      first | rw [lf_Tp_sumSlopes ok N _ _ _] | erw [lf_Tp_sumSlopes ok N _ _ _]
      refine km_call (fun r52 s52 => ?_)
      try rw [to_T]
      first | rw [lf_Tp_moveParameters ok N _] | erw [lf_Tp_moveParameters ok N _]
      refine km_call (fun r56 s56 => ?_)
      exact ih _ _ _ _
set_option maxHeartbeats 4000000 in
theorem lb_Tp_trainSteps_0 {Λ : tQ} {ρ : tR} {M : mv_M} (ok : t_ok Λ ρ M) (N : Nat) (τ : tS) (v1 : Int32) (v2 : Int32) : jb_Tp_trainSteps_0 N (wT Λ ρ M τ) Λ.1 v1 v2 = (kb_Tp_trainSteps_0 N ρ τ v1 v2).map (wqT Λ ρ M) := by
  unfold jb_Tp_trainSteps_0 kb_Tp_trainSteps_0
  try rw [to_T]
  first | rw [lf_Tp_find ok N _ _] | erw [lf_Tp_find ok N _ _]
  refine km_callR (fun r2 s2 q2 => ?_)
  refine km_optT (fun _ => ?_) (fun j7 e7 => ?_)
  · exact lb_Tp_trainSteps_20 ok N _
  · have b7 := (tf_Tp_find_lt q2) j7 e7
    refine km_ite (fun _ => ?_) (fun _ => ?_)
    · exact lb_Tp_trainSteps_20 ok N _
    · refine km_ite (fun _ => ?_) (fun _ => ?_)
      · first | rw [tg_N_0 ok b7, Option.bind_some] | rw [Option.bind_some]
        rw [Option.bind_some]
        first | rw [tg_S_0 ok b7, Option.bind_some] | rw [Option.bind_some]
        refine km_ite (fun _ => ?_) (fun _ => ?_)
        · exact lb_Tp_trainSteps_38 ok N N _ _ _ _
        · rfl
      · exact lb_Tp_trainSteps_20 ok N _
theorem lf_Tp_trainSteps {Λ : tQ} {ρ : tR} {M : mv_M} (ok : t_ok Λ ρ M) (N : Nat) (τ : tS) (v1 : Int32) (v2 : Int32) : jf_Tp_trainSteps N (wT Λ ρ M τ) Λ.1 v1 v2 = (kf_Tp_trainSteps N ρ τ v1 v2).map (wqT Λ ρ M) := lb_Tp_trainSteps_0 ok N τ v1 v2
