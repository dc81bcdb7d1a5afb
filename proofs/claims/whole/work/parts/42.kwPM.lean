def wF_PM (o : Nat) (σ : kS) : List Value := [.long (σ.2.1 0), .long (σ.2.1 1), .int (σ.1 2), .ref (o + 1), .ref (o + 2), .ref (o + 3), .ref (o + 4), .ref (o + 5), .ref (o + 6), .ref (o + 7), .ref (o + 8), .int (σ.1 11), .ref (o + 9), .ref (o + 10), .ref (o + 11), .long (σ.2.1 15), .long (σ.2.1 16), .ref (o + 12), .long (σ.2.1 18), .long (σ.2.1 19), .int (σ.1 20), .ref (o + 13), .int (σ.1 22), .int (σ.1 23), .long (σ.2.1 24), .long (σ.2.1 25), .int (σ.1 26), .ref (o + 14), .int (σ.1 28), .ref (o + 15), .ref (o + 16), .int (σ.1 31), .ref (o + 17), .int (σ.1 33), .ref (o + 18), .ref (o + 19), .ref (o + 20)]
def wc_PM (o : Nat) (σ : kS) : Nat → Option va_E := fun j => match j with
  | 0 => some (.inr (1, wF_PM o σ))
  | 1 => some (.inl (0, 50, .inl (σ.2.2.1 3)))
  | 2 => some (.inl (0, 50, .inl (σ.2.2.1 4)))
  | 3 => some (.inl (0, 50, .inl (σ.2.2.1 5)))
  | 4 => some (.inl (0, 50, .inl (σ.2.2.1 6)))
  | 5 => some (.inl (0, 150, .inl (σ.2.2.1 7)))
  | 6 => some (.inl (2, 50, .inl (σ.2.2.1 8)))
  | 7 => some (.inl (1, 3200, .inr (.inl (σ.2.2.2 9))))
  | 8 => some (.inl (1, 3200, .inr (.inl (σ.2.2.2 10))))
  | 9 => some (.inl (0, 3, .inl (σ.2.2.1 12)))
  | 10 => some (.inl (1, 3200, .inr (.inl (σ.2.2.2 13))))
  | 11 => some (.inl (1, 3200, .inr (.inl (σ.2.2.2 14))))
  | 12 => some (.inl (1, 50, .inr (.inl (σ.2.2.2 17))))
  | 13 => some (.inl (0, 200, .inl (σ.2.2.1 21)))
  | 14 => some (.inl (0, 256, .inl (σ.2.2.1 27)))
  | 15 => some (.inl (0, 40, .inl (σ.2.2.1 29)))
  | 16 => some (.inl (2, 40, .inl (σ.2.2.1 30)))
  | 17 => some (.inl (0, 200, .inl (σ.2.2.1 32)))
  | 18 => some (.inl (0, 60, .inl (σ.2.2.1 34)))
  | 19 => some (.inl (0, 60, .inl (σ.2.2.1 35)))
  | 20 => some (.inl (0, 60, .inl (σ.2.2.1 36)))
  | _ => none
def wr_PM (o : Nat) (M : mv_M) (σ : kS) : mv_M := kw_over o 20 (wc_PM o σ) M
abbrev wq_PM {α : Type} (o : Nat) (M : mv_M) : α × kS → α × mv_M := fun q => (q.1, wr_PM o M q.2)
theorem wo_PM {β : Type} (o : Nat) (M : mv_M) (σ : kS) (A : Option β) : mj_ob (wr_PM o M σ) o 1 A = A := mj_ob_of (kw_at0 (by rfl))
theorem wg_PM_0 (o : Nat) (M : mv_M) (σ : kS) : mj_getL (wr_PM o M σ) o 1 0 = some (σ.2.1 0) := mj_getL_of (kw_at0 (by rfl)) rfl
theorem wp_PM_0 (o : Nat) (M : mv_M) (σ : kS) (v : Int64) : mj_put (wr_PM o M σ) o 1 0 (.long v) = some (wr_PM o M (kL σ 0 v)) := by
  refine (mj_put_of (M := wr_PM o M σ) (fs := wF_PM o σ) (kw_at0 rfl) (Nat.le_of_ble_eq_true rfl)).trans ?_
  exact congrArg some (kw_set (j := 0) (Nat.zero_le _) (fun i h => by
    match i, h with
    | 0, _ => rfl
    | 1, _ => rfl
    | 2, _ => rfl
    | 3, _ => rfl
    | 4, _ => rfl
    | 5, _ => rfl
    | 6, _ => rfl
    | 7, _ => rfl
    | 8, _ => rfl
    | 9, _ => rfl
    | 10, _ => rfl
    | 11, _ => rfl
    | 12, _ => rfl
    | 13, _ => rfl
    | 14, _ => rfl
    | 15, _ => rfl
    | 16, _ => rfl
    | 17, _ => rfl
    | 18, _ => rfl
    | 19, _ => rfl
    | 20, _ => rfl
    | i + 21, h => exact absurd h (by omega)))
theorem wg_PM_1 (o : Nat) (M : mv_M) (σ : kS) : mj_getL (wr_PM o M σ) o 1 1 = some (σ.2.1 1) := mj_getL_of (kw_at0 (by rfl)) rfl
theorem wp_PM_1 (o : Nat) (M : mv_M) (σ : kS) (v : Int64) : mj_put (wr_PM o M σ) o 1 1 (.long v) = some (wr_PM o M (kL σ 1 v)) := by
  refine (mj_put_of (M := wr_PM o M σ) (fs := wF_PM o σ) (kw_at0 rfl) (Nat.le_of_ble_eq_true rfl)).trans ?_
  exact congrArg some (kw_set (j := 0) (Nat.zero_le _) (fun i h => by
    match i, h with
    | 0, _ => rfl
    | 1, _ => rfl
    | 2, _ => rfl
    | 3, _ => rfl
    | 4, _ => rfl
    | 5, _ => rfl
    | 6, _ => rfl
    | 7, _ => rfl
    | 8, _ => rfl
    | 9, _ => rfl
    | 10, _ => rfl
    | 11, _ => rfl
    | 12, _ => rfl
    | 13, _ => rfl
    | 14, _ => rfl
    | 15, _ => rfl
    | 16, _ => rfl
    | 17, _ => rfl
    | 18, _ => rfl
    | 19, _ => rfl
    | 20, _ => rfl
    | i + 21, h => exact absurd h (by omega)))
theorem wg_PM_2 (o : Nat) (M : mv_M) (σ : kS) : mj_getI (wr_PM o M σ) o 1 2 = some (σ.1 2) := mj_getI_of (kw_at0 (by rfl)) rfl
theorem wp_PM_2 (o : Nat) (M : mv_M) (σ : kS) (v : Int32) : mj_put (wr_PM o M σ) o 1 2 (.int v) = some (wr_PM o M (kI σ 2 v)) := by
  refine (mj_put_of (M := wr_PM o M σ) (fs := wF_PM o σ) (kw_at0 rfl) (Nat.le_of_ble_eq_true rfl)).trans ?_
  exact congrArg some (kw_set (j := 0) (Nat.zero_le _) (fun i h => by
    match i, h with
    | 0, _ => rfl
    | 1, _ => rfl
    | 2, _ => rfl
    | 3, _ => rfl
    | 4, _ => rfl
    | 5, _ => rfl
    | 6, _ => rfl
    | 7, _ => rfl
    | 8, _ => rfl
    | 9, _ => rfl
    | 10, _ => rfl
    | 11, _ => rfl
    | 12, _ => rfl
    | 13, _ => rfl
    | 14, _ => rfl
    | 15, _ => rfl
    | 16, _ => rfl
    | 17, _ => rfl
    | 18, _ => rfl
    | 19, _ => rfl
    | 20, _ => rfl
    | i + 21, h => exact absurd h (by omega)))
theorem wg_PM_3 (o : Nat) (M : mv_M) (σ : kS) : mj_getR (wr_PM o M σ) o 1 3 = some (some (o + 1)) := mj_getR_of (x := some (o + 1)) (kw_at0 (by rfl)) rfl
theorem wg_PM_4 (o : Nat) (M : mv_M) (σ : kS) : mj_getR (wr_PM o M σ) o 1 4 = some (some (o + 2)) := mj_getR_of (x := some (o + 2)) (kw_at0 (by rfl)) rfl
theorem wg_PM_5 (o : Nat) (M : mv_M) (σ : kS) : mj_getR (wr_PM o M σ) o 1 5 = some (some (o + 3)) := mj_getR_of (x := some (o + 3)) (kw_at0 (by rfl)) rfl
theorem wg_PM_6 (o : Nat) (M : mv_M) (σ : kS) : mj_getR (wr_PM o M σ) o 1 6 = some (some (o + 4)) := mj_getR_of (x := some (o + 4)) (kw_at0 (by rfl)) rfl
theorem wg_PM_7 (o : Nat) (M : mv_M) (σ : kS) : mj_getR (wr_PM o M σ) o 1 7 = some (some (o + 5)) := mj_getR_of (x := some (o + 5)) (kw_at0 (by rfl)) rfl
theorem wg_PM_8 (o : Nat) (M : mv_M) (σ : kS) : mj_getR (wr_PM o M σ) o 1 8 = some (some (o + 6)) := mj_getR_of (x := some (o + 6)) (kw_at0 (by rfl)) rfl
theorem wg_PM_9 (o : Nat) (M : mv_M) (σ : kS) : mj_getR (wr_PM o M σ) o 1 9 = some (some (o + 7)) := mj_getR_of (x := some (o + 7)) (kw_at0 (by rfl)) rfl
theorem wg_PM_10 (o : Nat) (M : mv_M) (σ : kS) : mj_getR (wr_PM o M σ) o 1 10 = some (some (o + 8)) := mj_getR_of (x := some (o + 8)) (kw_at0 (by rfl)) rfl
theorem wg_PM_11 (o : Nat) (M : mv_M) (σ : kS) : mj_getI (wr_PM o M σ) o 1 11 = some (σ.1 11) := mj_getI_of (kw_at0 (by rfl)) rfl
theorem wp_PM_11 (o : Nat) (M : mv_M) (σ : kS) (v : Int32) : mj_put (wr_PM o M σ) o 1 11 (.int v) = some (wr_PM o M (kI σ 11 v)) := by
  refine (mj_put_of (M := wr_PM o M σ) (fs := wF_PM o σ) (kw_at0 rfl) (Nat.le_of_ble_eq_true rfl)).trans ?_
  exact congrArg some (kw_set (j := 0) (Nat.zero_le _) (fun i h => by
    match i, h with
    | 0, _ => rfl
    | 1, _ => rfl
    | 2, _ => rfl
    | 3, _ => rfl
    | 4, _ => rfl
    | 5, _ => rfl
    | 6, _ => rfl
    | 7, _ => rfl
    | 8, _ => rfl
    | 9, _ => rfl
    | 10, _ => rfl
    | 11, _ => rfl
    | 12, _ => rfl
    | 13, _ => rfl
    | 14, _ => rfl
    | 15, _ => rfl
    | 16, _ => rfl
    | 17, _ => rfl
    | 18, _ => rfl
    | 19, _ => rfl
    | 20, _ => rfl
    | i + 21, h => exact absurd h (by omega)))
theorem wg_PM_12 (o : Nat) (M : mv_M) (σ : kS) : mj_getR (wr_PM o M σ) o 1 12 = some (some (o + 9)) := mj_getR_of (x := some (o + 9)) (kw_at0 (by rfl)) rfl
theorem wg_PM_13 (o : Nat) (M : mv_M) (σ : kS) : mj_getR (wr_PM o M σ) o 1 13 = some (some (o + 10)) := mj_getR_of (x := some (o + 10)) (kw_at0 (by rfl)) rfl
theorem wg_PM_14 (o : Nat) (M : mv_M) (σ : kS) : mj_getR (wr_PM o M σ) o 1 14 = some (some (o + 11)) := mj_getR_of (x := some (o + 11)) (kw_at0 (by rfl)) rfl
theorem wg_PM_15 (o : Nat) (M : mv_M) (σ : kS) : mj_getL (wr_PM o M σ) o 1 15 = some (σ.2.1 15) := mj_getL_of (kw_at0 (by rfl)) rfl
theorem wp_PM_15 (o : Nat) (M : mv_M) (σ : kS) (v : Int64) : mj_put (wr_PM o M σ) o 1 15 (.long v) = some (wr_PM o M (kL σ 15 v)) := by
  refine (mj_put_of (M := wr_PM o M σ) (fs := wF_PM o σ) (kw_at0 rfl) (Nat.le_of_ble_eq_true rfl)).trans ?_
  exact congrArg some (kw_set (j := 0) (Nat.zero_le _) (fun i h => by
    match i, h with
    | 0, _ => rfl
    | 1, _ => rfl
    | 2, _ => rfl
    | 3, _ => rfl
    | 4, _ => rfl
    | 5, _ => rfl
    | 6, _ => rfl
    | 7, _ => rfl
    | 8, _ => rfl
    | 9, _ => rfl
    | 10, _ => rfl
    | 11, _ => rfl
    | 12, _ => rfl
    | 13, _ => rfl
    | 14, _ => rfl
    | 15, _ => rfl
    | 16, _ => rfl
    | 17, _ => rfl
    | 18, _ => rfl
    | 19, _ => rfl
    | 20, _ => rfl
    | i + 21, h => exact absurd h (by omega)))
theorem wg_PM_16 (o : Nat) (M : mv_M) (σ : kS) : mj_getL (wr_PM o M σ) o 1 16 = some (σ.2.1 16) := mj_getL_of (kw_at0 (by rfl)) rfl
theorem wp_PM_16 (o : Nat) (M : mv_M) (σ : kS) (v : Int64) : mj_put (wr_PM o M σ) o 1 16 (.long v) = some (wr_PM o M (kL σ 16 v)) := by
  refine (mj_put_of (M := wr_PM o M σ) (fs := wF_PM o σ) (kw_at0 rfl) (Nat.le_of_ble_eq_true rfl)).trans ?_
  exact congrArg some (kw_set (j := 0) (Nat.zero_le _) (fun i h => by
    match i, h with
    | 0, _ => rfl
    | 1, _ => rfl
    | 2, _ => rfl
    | 3, _ => rfl
    | 4, _ => rfl
    | 5, _ => rfl
    | 6, _ => rfl
    | 7, _ => rfl
    | 8, _ => rfl
    | 9, _ => rfl
    | 10, _ => rfl
    | 11, _ => rfl
    | 12, _ => rfl
    | 13, _ => rfl
    | 14, _ => rfl
    | 15, _ => rfl
    | 16, _ => rfl
    | 17, _ => rfl
    | 18, _ => rfl
    | 19, _ => rfl
    | 20, _ => rfl
    | i + 21, h => exact absurd h (by omega)))
theorem wg_PM_17 (o : Nat) (M : mv_M) (σ : kS) : mj_getR (wr_PM o M σ) o 1 17 = some (some (o + 12)) := mj_getR_of (x := some (o + 12)) (kw_at0 (by rfl)) rfl
theorem wg_PM_18 (o : Nat) (M : mv_M) (σ : kS) : mj_getL (wr_PM o M σ) o 1 18 = some (σ.2.1 18) := mj_getL_of (kw_at0 (by rfl)) rfl
theorem wp_PM_18 (o : Nat) (M : mv_M) (σ : kS) (v : Int64) : mj_put (wr_PM o M σ) o 1 18 (.long v) = some (wr_PM o M (kL σ 18 v)) := by
  refine (mj_put_of (M := wr_PM o M σ) (fs := wF_PM o σ) (kw_at0 rfl) (Nat.le_of_ble_eq_true rfl)).trans ?_
  exact congrArg some (kw_set (j := 0) (Nat.zero_le _) (fun i h => by
    match i, h with
    | 0, _ => rfl
    | 1, _ => rfl
    | 2, _ => rfl
    | 3, _ => rfl
    | 4, _ => rfl
    | 5, _ => rfl
    | 6, _ => rfl
    | 7, _ => rfl
    | 8, _ => rfl
    | 9, _ => rfl
    | 10, _ => rfl
    | 11, _ => rfl
    | 12, _ => rfl
    | 13, _ => rfl
    | 14, _ => rfl
    | 15, _ => rfl
    | 16, _ => rfl
    | 17, _ => rfl
    | 18, _ => rfl
    | 19, _ => rfl
    | 20, _ => rfl
    | i + 21, h => exact absurd h (by omega)))
theorem wg_PM_19 (o : Nat) (M : mv_M) (σ : kS) : mj_getL (wr_PM o M σ) o 1 19 = some (σ.2.1 19) := mj_getL_of (kw_at0 (by rfl)) rfl
theorem wp_PM_19 (o : Nat) (M : mv_M) (σ : kS) (v : Int64) : mj_put (wr_PM o M σ) o 1 19 (.long v) = some (wr_PM o M (kL σ 19 v)) := by
  refine (mj_put_of (M := wr_PM o M σ) (fs := wF_PM o σ) (kw_at0 rfl) (Nat.le_of_ble_eq_true rfl)).trans ?_
  exact congrArg some (kw_set (j := 0) (Nat.zero_le _) (fun i h => by
    match i, h with
    | 0, _ => rfl
    | 1, _ => rfl
    | 2, _ => rfl
    | 3, _ => rfl
    | 4, _ => rfl
    | 5, _ => rfl
    | 6, _ => rfl
    | 7, _ => rfl
    | 8, _ => rfl
    | 9, _ => rfl
    | 10, _ => rfl
    | 11, _ => rfl
    | 12, _ => rfl
    | 13, _ => rfl
    | 14, _ => rfl
    | 15, _ => rfl
    | 16, _ => rfl
    | 17, _ => rfl
    | 18, _ => rfl
    | 19, _ => rfl
    | 20, _ => rfl
    | i + 21, h => exact absurd h (by omega)))
theorem wg_PM_20 (o : Nat) (M : mv_M) (σ : kS) : mj_getI (wr_PM o M σ) o 1 20 = some (σ.1 20) := mj_getI_of (kw_at0 (by rfl)) rfl
theorem wp_PM_20 (o : Nat) (M : mv_M) (σ : kS) (v : Int32) : mj_put (wr_PM o M σ) o 1 20 (.int v) = some (wr_PM o M (kI σ 20 v)) := by
  refine (mj_put_of (M := wr_PM o M σ) (fs := wF_PM o σ) (kw_at0 rfl) (Nat.le_of_ble_eq_true rfl)).trans ?_
  exact congrArg some (kw_set (j := 0) (Nat.zero_le _) (fun i h => by
    match i, h with
    | 0, _ => rfl
    | 1, _ => rfl
    | 2, _ => rfl
    | 3, _ => rfl
    | 4, _ => rfl
    | 5, _ => rfl
    | 6, _ => rfl
    | 7, _ => rfl
    | 8, _ => rfl
    | 9, _ => rfl
    | 10, _ => rfl
    | 11, _ => rfl
    | 12, _ => rfl
    | 13, _ => rfl
    | 14, _ => rfl
    | 15, _ => rfl
    | 16, _ => rfl
    | 17, _ => rfl
    | 18, _ => rfl
    | 19, _ => rfl
    | 20, _ => rfl
    | i + 21, h => exact absurd h (by omega)))
theorem wg_PM_21 (o : Nat) (M : mv_M) (σ : kS) : mj_getR (wr_PM o M σ) o 1 21 = some (some (o + 13)) := mj_getR_of (x := some (o + 13)) (kw_at0 (by rfl)) rfl
theorem wg_PM_22 (o : Nat) (M : mv_M) (σ : kS) : mj_getI (wr_PM o M σ) o 1 22 = some (σ.1 22) := mj_getI_of (kw_at0 (by rfl)) rfl
theorem wp_PM_22 (o : Nat) (M : mv_M) (σ : kS) (v : Int32) : mj_put (wr_PM o M σ) o 1 22 (.int v) = some (wr_PM o M (kI σ 22 v)) := by
  refine (mj_put_of (M := wr_PM o M σ) (fs := wF_PM o σ) (kw_at0 rfl) (Nat.le_of_ble_eq_true rfl)).trans ?_
  exact congrArg some (kw_set (j := 0) (Nat.zero_le _) (fun i h => by
    match i, h with
    | 0, _ => rfl
    | 1, _ => rfl
    | 2, _ => rfl
    | 3, _ => rfl
    | 4, _ => rfl
    | 5, _ => rfl
    | 6, _ => rfl
    | 7, _ => rfl
    | 8, _ => rfl
    | 9, _ => rfl
    | 10, _ => rfl
    | 11, _ => rfl
    | 12, _ => rfl
    | 13, _ => rfl
    | 14, _ => rfl
    | 15, _ => rfl
    | 16, _ => rfl
    | 17, _ => rfl
    | 18, _ => rfl
    | 19, _ => rfl
    | 20, _ => rfl
    | i + 21, h => exact absurd h (by omega)))
theorem wg_PM_23 (o : Nat) (M : mv_M) (σ : kS) : mj_getI (wr_PM o M σ) o 1 23 = some (σ.1 23) := mj_getI_of (kw_at0 (by rfl)) rfl
theorem wp_PM_23 (o : Nat) (M : mv_M) (σ : kS) (v : Int32) : mj_put (wr_PM o M σ) o 1 23 (.int v) = some (wr_PM o M (kI σ 23 v)) := by
  refine (mj_put_of (M := wr_PM o M σ) (fs := wF_PM o σ) (kw_at0 rfl) (Nat.le_of_ble_eq_true rfl)).trans ?_
  exact congrArg some (kw_set (j := 0) (Nat.zero_le _) (fun i h => by
    match i, h with
    | 0, _ => rfl
    | 1, _ => rfl
    | 2, _ => rfl
    | 3, _ => rfl
    | 4, _ => rfl
    | 5, _ => rfl
    | 6, _ => rfl
    | 7, _ => rfl
    | 8, _ => rfl
    | 9, _ => rfl
    | 10, _ => rfl
    | 11, _ => rfl
    | 12, _ => rfl
    | 13, _ => rfl
    | 14, _ => rfl
    | 15, _ => rfl
    | 16, _ => rfl
    | 17, _ => rfl
    | 18, _ => rfl
    | 19, _ => rfl
    | 20, _ => rfl
    | i + 21, h => exact absurd h (by omega)))
theorem wg_PM_24 (o : Nat) (M : mv_M) (σ : kS) : mj_getL (wr_PM o M σ) o 1 24 = some (σ.2.1 24) := mj_getL_of (kw_at0 (by rfl)) rfl
theorem wp_PM_24 (o : Nat) (M : mv_M) (σ : kS) (v : Int64) : mj_put (wr_PM o M σ) o 1 24 (.long v) = some (wr_PM o M (kL σ 24 v)) := by
  refine (mj_put_of (M := wr_PM o M σ) (fs := wF_PM o σ) (kw_at0 rfl) (Nat.le_of_ble_eq_true rfl)).trans ?_
  exact congrArg some (kw_set (j := 0) (Nat.zero_le _) (fun i h => by
    match i, h with
    | 0, _ => rfl
    | 1, _ => rfl
    | 2, _ => rfl
    | 3, _ => rfl
    | 4, _ => rfl
    | 5, _ => rfl
    | 6, _ => rfl
    | 7, _ => rfl
    | 8, _ => rfl
    | 9, _ => rfl
    | 10, _ => rfl
    | 11, _ => rfl
    | 12, _ => rfl
    | 13, _ => rfl
    | 14, _ => rfl
    | 15, _ => rfl
    | 16, _ => rfl
    | 17, _ => rfl
    | 18, _ => rfl
    | 19, _ => rfl
    | 20, _ => rfl
    | i + 21, h => exact absurd h (by omega)))
theorem wg_PM_25 (o : Nat) (M : mv_M) (σ : kS) : mj_getL (wr_PM o M σ) o 1 25 = some (σ.2.1 25) := mj_getL_of (kw_at0 (by rfl)) rfl
theorem wp_PM_25 (o : Nat) (M : mv_M) (σ : kS) (v : Int64) : mj_put (wr_PM o M σ) o 1 25 (.long v) = some (wr_PM o M (kL σ 25 v)) := by
  refine (mj_put_of (M := wr_PM o M σ) (fs := wF_PM o σ) (kw_at0 rfl) (Nat.le_of_ble_eq_true rfl)).trans ?_
  exact congrArg some (kw_set (j := 0) (Nat.zero_le _) (fun i h => by
    match i, h with
    | 0, _ => rfl
    | 1, _ => rfl
    | 2, _ => rfl
    | 3, _ => rfl
    | 4, _ => rfl
    | 5, _ => rfl
    | 6, _ => rfl
    | 7, _ => rfl
    | 8, _ => rfl
    | 9, _ => rfl
    | 10, _ => rfl
    | 11, _ => rfl
    | 12, _ => rfl
    | 13, _ => rfl
    | 14, _ => rfl
    | 15, _ => rfl
    | 16, _ => rfl
    | 17, _ => rfl
    | 18, _ => rfl
    | 19, _ => rfl
    | 20, _ => rfl
    | i + 21, h => exact absurd h (by omega)))
theorem wg_PM_26 (o : Nat) (M : mv_M) (σ : kS) : mj_getI (wr_PM o M σ) o 1 26 = some (σ.1 26) := mj_getI_of (kw_at0 (by rfl)) rfl
theorem wp_PM_26 (o : Nat) (M : mv_M) (σ : kS) (v : Int32) : mj_put (wr_PM o M σ) o 1 26 (.int v) = some (wr_PM o M (kI σ 26 v)) := by
  refine (mj_put_of (M := wr_PM o M σ) (fs := wF_PM o σ) (kw_at0 rfl) (Nat.le_of_ble_eq_true rfl)).trans ?_
  exact congrArg some (kw_set (j := 0) (Nat.zero_le _) (fun i h => by
    match i, h with
    | 0, _ => rfl
    | 1, _ => rfl
    | 2, _ => rfl
    | 3, _ => rfl
    | 4, _ => rfl
    | 5, _ => rfl
    | 6, _ => rfl
    | 7, _ => rfl
    | 8, _ => rfl
    | 9, _ => rfl
    | 10, _ => rfl
    | 11, _ => rfl
    | 12, _ => rfl
    | 13, _ => rfl
    | 14, _ => rfl
    | 15, _ => rfl
    | 16, _ => rfl
    | 17, _ => rfl
    | 18, _ => rfl
    | 19, _ => rfl
    | 20, _ => rfl
    | i + 21, h => exact absurd h (by omega)))
theorem wg_PM_27 (o : Nat) (M : mv_M) (σ : kS) : mj_getR (wr_PM o M σ) o 1 27 = some (some (o + 14)) := mj_getR_of (x := some (o + 14)) (kw_at0 (by rfl)) rfl
theorem wg_PM_28 (o : Nat) (M : mv_M) (σ : kS) : mj_getI (wr_PM o M σ) o 1 28 = some (σ.1 28) := mj_getI_of (kw_at0 (by rfl)) rfl
theorem wp_PM_28 (o : Nat) (M : mv_M) (σ : kS) (v : Int32) : mj_put (wr_PM o M σ) o 1 28 (.int v) = some (wr_PM o M (kI σ 28 v)) := by
  refine (mj_put_of (M := wr_PM o M σ) (fs := wF_PM o σ) (kw_at0 rfl) (Nat.le_of_ble_eq_true rfl)).trans ?_
  exact congrArg some (kw_set (j := 0) (Nat.zero_le _) (fun i h => by
    match i, h with
    | 0, _ => rfl
    | 1, _ => rfl
    | 2, _ => rfl
    | 3, _ => rfl
    | 4, _ => rfl
    | 5, _ => rfl
    | 6, _ => rfl
    | 7, _ => rfl
    | 8, _ => rfl
    | 9, _ => rfl
    | 10, _ => rfl
    | 11, _ => rfl
    | 12, _ => rfl
    | 13, _ => rfl
    | 14, _ => rfl
    | 15, _ => rfl
    | 16, _ => rfl
    | 17, _ => rfl
    | 18, _ => rfl
    | 19, _ => rfl
    | 20, _ => rfl
    | i + 21, h => exact absurd h (by omega)))
theorem wg_PM_29 (o : Nat) (M : mv_M) (σ : kS) : mj_getR (wr_PM o M σ) o 1 29 = some (some (o + 15)) := mj_getR_of (x := some (o + 15)) (kw_at0 (by rfl)) rfl
theorem wg_PM_30 (o : Nat) (M : mv_M) (σ : kS) : mj_getR (wr_PM o M σ) o 1 30 = some (some (o + 16)) := mj_getR_of (x := some (o + 16)) (kw_at0 (by rfl)) rfl
theorem wg_PM_31 (o : Nat) (M : mv_M) (σ : kS) : mj_getI (wr_PM o M σ) o 1 31 = some (σ.1 31) := mj_getI_of (kw_at0 (by rfl)) rfl
theorem wp_PM_31 (o : Nat) (M : mv_M) (σ : kS) (v : Int32) : mj_put (wr_PM o M σ) o 1 31 (.int v) = some (wr_PM o M (kI σ 31 v)) := by
  refine (mj_put_of (M := wr_PM o M σ) (fs := wF_PM o σ) (kw_at0 rfl) (Nat.le_of_ble_eq_true rfl)).trans ?_
  exact congrArg some (kw_set (j := 0) (Nat.zero_le _) (fun i h => by
    match i, h with
    | 0, _ => rfl
    | 1, _ => rfl
    | 2, _ => rfl
    | 3, _ => rfl
    | 4, _ => rfl
    | 5, _ => rfl
    | 6, _ => rfl
    | 7, _ => rfl
    | 8, _ => rfl
    | 9, _ => rfl
    | 10, _ => rfl
    | 11, _ => rfl
    | 12, _ => rfl
    | 13, _ => rfl
    | 14, _ => rfl
    | 15, _ => rfl
    | 16, _ => rfl
    | 17, _ => rfl
    | 18, _ => rfl
    | 19, _ => rfl
    | 20, _ => rfl
    | i + 21, h => exact absurd h (by omega)))
theorem wg_PM_32 (o : Nat) (M : mv_M) (σ : kS) : mj_getR (wr_PM o M σ) o 1 32 = some (some (o + 17)) := mj_getR_of (x := some (o + 17)) (kw_at0 (by rfl)) rfl
theorem wg_PM_33 (o : Nat) (M : mv_M) (σ : kS) : mj_getI (wr_PM o M σ) o 1 33 = some (σ.1 33) := mj_getI_of (kw_at0 (by rfl)) rfl
theorem wp_PM_33 (o : Nat) (M : mv_M) (σ : kS) (v : Int32) : mj_put (wr_PM o M σ) o 1 33 (.int v) = some (wr_PM o M (kI σ 33 v)) := by
  refine (mj_put_of (M := wr_PM o M σ) (fs := wF_PM o σ) (kw_at0 rfl) (Nat.le_of_ble_eq_true rfl)).trans ?_
  exact congrArg some (kw_set (j := 0) (Nat.zero_le _) (fun i h => by
    match i, h with
    | 0, _ => rfl
    | 1, _ => rfl
    | 2, _ => rfl
    | 3, _ => rfl
    | 4, _ => rfl
    | 5, _ => rfl
    | 6, _ => rfl
    | 7, _ => rfl
    | 8, _ => rfl
    | 9, _ => rfl
    | 10, _ => rfl
    | 11, _ => rfl
    | 12, _ => rfl
    | 13, _ => rfl
    | 14, _ => rfl
    | 15, _ => rfl
    | 16, _ => rfl
    | 17, _ => rfl
    | 18, _ => rfl
    | 19, _ => rfl
    | 20, _ => rfl
    | i + 21, h => exact absurd h (by omega)))
theorem wg_PM_34 (o : Nat) (M : mv_M) (σ : kS) : mj_getR (wr_PM o M σ) o 1 34 = some (some (o + 18)) := mj_getR_of (x := some (o + 18)) (kw_at0 (by rfl)) rfl
theorem wg_PM_35 (o : Nat) (M : mv_M) (σ : kS) : mj_getR (wr_PM o M σ) o 1 35 = some (some (o + 19)) := mj_getR_of (x := some (o + 19)) (kw_at0 (by rfl)) rfl
theorem wg_PM_36 (o : Nat) (M : mv_M) (σ : kS) : mj_getR (wr_PM o M σ) o 1 36 = some (some (o + 20)) := mj_getR_of (x := some (o + 20)) (kw_at0 (by rfl)) rfl
theorem wn_PM_3 (o : Nat) (M : mv_M) (σ : kS) : mj_len (wr_PM o M σ) (o + 1) 0 = some 50 := (mj_len_of (M := wr_PM o M σ) (kw_at (Nat.le_of_ble_eq_true rfl) rfl)).trans rfl
theorem wl_PM_3 (o : Nat) (M : mv_M) (σ : kS) (i : Int32) : mj_ild (wr_PM o M σ) (o + 1) 0 i = mj_tab (σ.2.2.1 3) 50 i := kw_ild (M := wr_PM o M σ) (kw_at (Nat.le_of_ble_eq_true rfl) rfl)
theorem wx_PM_3 (o : Nat) (M : mv_M) (σ : kS) (i : Int32) (x : Int32) : mj_ist (wr_PM o M σ) (o + 1) 0 i x = if mj_in i 50 = true then some (wr_PM o M (kA σ 3 i.toNatClampNeg x)) else none := by
  refine (kw_ist (M := wr_PM o M σ) (kw_at (Nat.le_of_ble_eq_true rfl) rfl)).trans ?_
  exact congrArg (fun z => if mj_in i 50 = true then some z else none) (kw_set (j := 1) (Nat.le_of_ble_eq_true rfl) (fun i h => by
    match i, h with
    | 0, _ => rfl
    | 1, _ => rfl
    | 2, _ => rfl
    | 3, _ => rfl
    | 4, _ => rfl
    | 5, _ => rfl
    | 6, _ => rfl
    | 7, _ => rfl
    | 8, _ => rfl
    | 9, _ => rfl
    | 10, _ => rfl
    | 11, _ => rfl
    | 12, _ => rfl
    | 13, _ => rfl
    | 14, _ => rfl
    | 15, _ => rfl
    | 16, _ => rfl
    | 17, _ => rfl
    | 18, _ => rfl
    | 19, _ => rfl
    | 20, _ => rfl
    | i + 21, h => exact absurd h (by omega)))
theorem wn_PM_4 (o : Nat) (M : mv_M) (σ : kS) : mj_len (wr_PM o M σ) (o + 2) 0 = some 50 := (mj_len_of (M := wr_PM o M σ) (kw_at (Nat.le_of_ble_eq_true rfl) rfl)).trans rfl
theorem wl_PM_4 (o : Nat) (M : mv_M) (σ : kS) (i : Int32) : mj_ild (wr_PM o M σ) (o + 2) 0 i = mj_tab (σ.2.2.1 4) 50 i := kw_ild (M := wr_PM o M σ) (kw_at (Nat.le_of_ble_eq_true rfl) rfl)
theorem wx_PM_4 (o : Nat) (M : mv_M) (σ : kS) (i : Int32) (x : Int32) : mj_ist (wr_PM o M σ) (o + 2) 0 i x = if mj_in i 50 = true then some (wr_PM o M (kA σ 4 i.toNatClampNeg x)) else none := by
  refine (kw_ist (M := wr_PM o M σ) (kw_at (Nat.le_of_ble_eq_true rfl) rfl)).trans ?_
  exact congrArg (fun z => if mj_in i 50 = true then some z else none) (kw_set (j := 2) (Nat.le_of_ble_eq_true rfl) (fun i h => by
    match i, h with
    | 0, _ => rfl
    | 1, _ => rfl
    | 2, _ => rfl
    | 3, _ => rfl
    | 4, _ => rfl
    | 5, _ => rfl
    | 6, _ => rfl
    | 7, _ => rfl
    | 8, _ => rfl
    | 9, _ => rfl
    | 10, _ => rfl
    | 11, _ => rfl
    | 12, _ => rfl
    | 13, _ => rfl
    | 14, _ => rfl
    | 15, _ => rfl
    | 16, _ => rfl
    | 17, _ => rfl
    | 18, _ => rfl
    | 19, _ => rfl
    | 20, _ => rfl
    | i + 21, h => exact absurd h (by omega)))
theorem wn_PM_5 (o : Nat) (M : mv_M) (σ : kS) : mj_len (wr_PM o M σ) (o + 3) 0 = some 50 := (mj_len_of (M := wr_PM o M σ) (kw_at (Nat.le_of_ble_eq_true rfl) rfl)).trans rfl
theorem wl_PM_5 (o : Nat) (M : mv_M) (σ : kS) (i : Int32) : mj_ild (wr_PM o M σ) (o + 3) 0 i = mj_tab (σ.2.2.1 5) 50 i := kw_ild (M := wr_PM o M σ) (kw_at (Nat.le_of_ble_eq_true rfl) rfl)
theorem wx_PM_5 (o : Nat) (M : mv_M) (σ : kS) (i : Int32) (x : Int32) : mj_ist (wr_PM o M σ) (o + 3) 0 i x = if mj_in i 50 = true then some (wr_PM o M (kA σ 5 i.toNatClampNeg x)) else none := by
  refine (kw_ist (M := wr_PM o M σ) (kw_at (Nat.le_of_ble_eq_true rfl) rfl)).trans ?_
  exact congrArg (fun z => if mj_in i 50 = true then some z else none) (kw_set (j := 3) (Nat.le_of_ble_eq_true rfl) (fun i h => by
    match i, h with
    | 0, _ => rfl
    | 1, _ => rfl
    | 2, _ => rfl
    | 3, _ => rfl
    | 4, _ => rfl
    | 5, _ => rfl
    | 6, _ => rfl
    | 7, _ => rfl
    | 8, _ => rfl
    | 9, _ => rfl
    | 10, _ => rfl
    | 11, _ => rfl
    | 12, _ => rfl
    | 13, _ => rfl
    | 14, _ => rfl
    | 15, _ => rfl
    | 16, _ => rfl
    | 17, _ => rfl
    | 18, _ => rfl
    | 19, _ => rfl
    | 20, _ => rfl
    | i + 21, h => exact absurd h (by omega)))
theorem wn_PM_6 (o : Nat) (M : mv_M) (σ : kS) : mj_len (wr_PM o M σ) (o + 4) 0 = some 50 := (mj_len_of (M := wr_PM o M σ) (kw_at (Nat.le_of_ble_eq_true rfl) rfl)).trans rfl
theorem wl_PM_6 (o : Nat) (M : mv_M) (σ : kS) (i : Int32) : mj_ild (wr_PM o M σ) (o + 4) 0 i = mj_tab (σ.2.2.1 6) 50 i := kw_ild (M := wr_PM o M σ) (kw_at (Nat.le_of_ble_eq_true rfl) rfl)
theorem wx_PM_6 (o : Nat) (M : mv_M) (σ : kS) (i : Int32) (x : Int32) : mj_ist (wr_PM o M σ) (o + 4) 0 i x = if mj_in i 50 = true then some (wr_PM o M (kA σ 6 i.toNatClampNeg x)) else none := by
  refine (kw_ist (M := wr_PM o M σ) (kw_at (Nat.le_of_ble_eq_true rfl) rfl)).trans ?_
  exact congrArg (fun z => if mj_in i 50 = true then some z else none) (kw_set (j := 4) (Nat.le_of_ble_eq_true rfl) (fun i h => by
    match i, h with
    | 0, _ => rfl
    | 1, _ => rfl
    | 2, _ => rfl
    | 3, _ => rfl
    | 4, _ => rfl
    | 5, _ => rfl
    | 6, _ => rfl
    | 7, _ => rfl
    | 8, _ => rfl
    | 9, _ => rfl
    | 10, _ => rfl
    | 11, _ => rfl
    | 12, _ => rfl
    | 13, _ => rfl
    | 14, _ => rfl
    | 15, _ => rfl
    | 16, _ => rfl
    | 17, _ => rfl
    | 18, _ => rfl
    | 19, _ => rfl
    | 20, _ => rfl
    | i + 21, h => exact absurd h (by omega)))
theorem wn_PM_7 (o : Nat) (M : mv_M) (σ : kS) : mj_len (wr_PM o M σ) (o + 5) 0 = some 150 := (mj_len_of (M := wr_PM o M σ) (kw_at (Nat.le_of_ble_eq_true rfl) rfl)).trans rfl
theorem wl_PM_7 (o : Nat) (M : mv_M) (σ : kS) (i : Int32) : mj_ild (wr_PM o M σ) (o + 5) 0 i = mj_tab (σ.2.2.1 7) 150 i := kw_ild (M := wr_PM o M σ) (kw_at (Nat.le_of_ble_eq_true rfl) rfl)
theorem wx_PM_7 (o : Nat) (M : mv_M) (σ : kS) (i : Int32) (x : Int32) : mj_ist (wr_PM o M σ) (o + 5) 0 i x = if mj_in i 150 = true then some (wr_PM o M (kA σ 7 i.toNatClampNeg x)) else none := by
  refine (kw_ist (M := wr_PM o M σ) (kw_at (Nat.le_of_ble_eq_true rfl) rfl)).trans ?_
  exact congrArg (fun z => if mj_in i 150 = true then some z else none) (kw_set (j := 5) (Nat.le_of_ble_eq_true rfl) (fun i h => by
    match i, h with
    | 0, _ => rfl
    | 1, _ => rfl
    | 2, _ => rfl
    | 3, _ => rfl
    | 4, _ => rfl
    | 5, _ => rfl
    | 6, _ => rfl
    | 7, _ => rfl
    | 8, _ => rfl
    | 9, _ => rfl
    | 10, _ => rfl
    | 11, _ => rfl
    | 12, _ => rfl
    | 13, _ => rfl
    | 14, _ => rfl
    | 15, _ => rfl
    | 16, _ => rfl
    | 17, _ => rfl
    | 18, _ => rfl
    | 19, _ => rfl
    | 20, _ => rfl
    | i + 21, h => exact absurd h (by omega)))
theorem wn_PM_8 (o : Nat) (M : mv_M) (σ : kS) : mj_len (wr_PM o M σ) (o + 6) 2 = some 50 := (mj_len_of (M := wr_PM o M σ) (kw_at (Nat.le_of_ble_eq_true rfl) rfl)).trans rfl
theorem wl_PM_8 (o : Nat) (M : mv_M) (σ : kS) (i : Int32) : mj_ild (wr_PM o M σ) (o + 6) 2 i = mj_tab (σ.2.2.1 8) 50 i := kw_ild (M := wr_PM o M σ) (kw_at (Nat.le_of_ble_eq_true rfl) rfl)
theorem wx_PM_8 (o : Nat) (M : mv_M) (σ : kS) (i : Int32) (x : Int32) : mj_ist (wr_PM o M σ) (o + 6) 2 i x = if mj_in i 50 = true then some (wr_PM o M (kA σ 8 i.toNatClampNeg x)) else none := by
  refine (kw_ist (M := wr_PM o M σ) (kw_at (Nat.le_of_ble_eq_true rfl) rfl)).trans ?_
  exact congrArg (fun z => if mj_in i 50 = true then some z else none) (kw_set (j := 6) (Nat.le_of_ble_eq_true rfl) (fun i h => by
    match i, h with
    | 0, _ => rfl
    | 1, _ => rfl
    | 2, _ => rfl
    | 3, _ => rfl
    | 4, _ => rfl
    | 5, _ => rfl
    | 6, _ => rfl
    | 7, _ => rfl
    | 8, _ => rfl
    | 9, _ => rfl
    | 10, _ => rfl
    | 11, _ => rfl
    | 12, _ => rfl
    | 13, _ => rfl
    | 14, _ => rfl
    | 15, _ => rfl
    | 16, _ => rfl
    | 17, _ => rfl
    | 18, _ => rfl
    | 19, _ => rfl
    | 20, _ => rfl
    | i + 21, h => exact absurd h (by omega)))
theorem wn_PM_9 (o : Nat) (M : mv_M) (σ : kS) : mj_len (wr_PM o M σ) (o + 7) 1 = some 3200 := (mj_len_of (M := wr_PM o M σ) (kw_at (Nat.le_of_ble_eq_true rfl) rfl)).trans rfl
theorem wl_PM_9 (o : Nat) (M : mv_M) (σ : kS) (i : Int32) : mj_lld (wr_PM o M σ) (o + 7) 1 i = mj_tabL (σ.2.2.2 9) 3200 i := kw_lld (M := wr_PM o M σ) (kw_at (Nat.le_of_ble_eq_true rfl) rfl)
theorem wx_PM_9 (o : Nat) (M : mv_M) (σ : kS) (i : Int32) (x : Int64) : mj_lst (wr_PM o M σ) (o + 7) 1 i x = if mj_in i 3200 = true then some (wr_PM o M (kB σ 9 i.toNatClampNeg x)) else none := by
  refine (kw_lst (M := wr_PM o M σ) (kw_at (Nat.le_of_ble_eq_true rfl) rfl)).trans ?_
  exact congrArg (fun z => if mj_in i 3200 = true then some z else none) (kw_set (j := 7) (Nat.le_of_ble_eq_true rfl) (fun i h => by
    match i, h with
    | 0, _ => rfl
    | 1, _ => rfl
    | 2, _ => rfl
    | 3, _ => rfl
    | 4, _ => rfl
    | 5, _ => rfl
    | 6, _ => rfl
    | 7, _ => rfl
    | 8, _ => rfl
    | 9, _ => rfl
    | 10, _ => rfl
    | 11, _ => rfl
    | 12, _ => rfl
    | 13, _ => rfl
    | 14, _ => rfl
    | 15, _ => rfl
    | 16, _ => rfl
    | 17, _ => rfl
    | 18, _ => rfl
    | 19, _ => rfl
    | 20, _ => rfl
    | i + 21, h => exact absurd h (by omega)))
theorem wn_PM_10 (o : Nat) (M : mv_M) (σ : kS) : mj_len (wr_PM o M σ) (o + 8) 1 = some 3200 := (mj_len_of (M := wr_PM o M σ) (kw_at (Nat.le_of_ble_eq_true rfl) rfl)).trans rfl
theorem wl_PM_10 (o : Nat) (M : mv_M) (σ : kS) (i : Int32) : mj_lld (wr_PM o M σ) (o + 8) 1 i = mj_tabL (σ.2.2.2 10) 3200 i := kw_lld (M := wr_PM o M σ) (kw_at (Nat.le_of_ble_eq_true rfl) rfl)
theorem wx_PM_10 (o : Nat) (M : mv_M) (σ : kS) (i : Int32) (x : Int64) : mj_lst (wr_PM o M σ) (o + 8) 1 i x = if mj_in i 3200 = true then some (wr_PM o M (kB σ 10 i.toNatClampNeg x)) else none := by
  refine (kw_lst (M := wr_PM o M σ) (kw_at (Nat.le_of_ble_eq_true rfl) rfl)).trans ?_
  exact congrArg (fun z => if mj_in i 3200 = true then some z else none) (kw_set (j := 8) (Nat.le_of_ble_eq_true rfl) (fun i h => by
    match i, h with
    | 0, _ => rfl
    | 1, _ => rfl
    | 2, _ => rfl
    | 3, _ => rfl
    | 4, _ => rfl
    | 5, _ => rfl
    | 6, _ => rfl
    | 7, _ => rfl
    | 8, _ => rfl
    | 9, _ => rfl
    | 10, _ => rfl
    | 11, _ => rfl
    | 12, _ => rfl
    | 13, _ => rfl
    | 14, _ => rfl
    | 15, _ => rfl
    | 16, _ => rfl
    | 17, _ => rfl
    | 18, _ => rfl
    | 19, _ => rfl
    | 20, _ => rfl
    | i + 21, h => exact absurd h (by omega)))
theorem wn_PM_12 (o : Nat) (M : mv_M) (σ : kS) : mj_len (wr_PM o M σ) (o + 9) 0 = some 3 := (mj_len_of (M := wr_PM o M σ) (kw_at (Nat.le_of_ble_eq_true rfl) rfl)).trans rfl
theorem wl_PM_12 (o : Nat) (M : mv_M) (σ : kS) (i : Int32) : mj_ild (wr_PM o M σ) (o + 9) 0 i = mj_tab (σ.2.2.1 12) 3 i := kw_ild (M := wr_PM o M σ) (kw_at (Nat.le_of_ble_eq_true rfl) rfl)
theorem wx_PM_12 (o : Nat) (M : mv_M) (σ : kS) (i : Int32) (x : Int32) : mj_ist (wr_PM o M σ) (o + 9) 0 i x = if mj_in i 3 = true then some (wr_PM o M (kA σ 12 i.toNatClampNeg x)) else none := by
  refine (kw_ist (M := wr_PM o M σ) (kw_at (Nat.le_of_ble_eq_true rfl) rfl)).trans ?_
  exact congrArg (fun z => if mj_in i 3 = true then some z else none) (kw_set (j := 9) (Nat.le_of_ble_eq_true rfl) (fun i h => by
    match i, h with
    | 0, _ => rfl
    | 1, _ => rfl
    | 2, _ => rfl
    | 3, _ => rfl
    | 4, _ => rfl
    | 5, _ => rfl
    | 6, _ => rfl
    | 7, _ => rfl
    | 8, _ => rfl
    | 9, _ => rfl
    | 10, _ => rfl
    | 11, _ => rfl
    | 12, _ => rfl
    | 13, _ => rfl
    | 14, _ => rfl
    | 15, _ => rfl
    | 16, _ => rfl
    | 17, _ => rfl
    | 18, _ => rfl
    | 19, _ => rfl
    | 20, _ => rfl
    | i + 21, h => exact absurd h (by omega)))
theorem wn_PM_13 (o : Nat) (M : mv_M) (σ : kS) : mj_len (wr_PM o M σ) (o + 10) 1 = some 3200 := (mj_len_of (M := wr_PM o M σ) (kw_at (Nat.le_of_ble_eq_true rfl) rfl)).trans rfl
theorem wl_PM_13 (o : Nat) (M : mv_M) (σ : kS) (i : Int32) : mj_lld (wr_PM o M σ) (o + 10) 1 i = mj_tabL (σ.2.2.2 13) 3200 i := kw_lld (M := wr_PM o M σ) (kw_at (Nat.le_of_ble_eq_true rfl) rfl)
theorem wx_PM_13 (o : Nat) (M : mv_M) (σ : kS) (i : Int32) (x : Int64) : mj_lst (wr_PM o M σ) (o + 10) 1 i x = if mj_in i 3200 = true then some (wr_PM o M (kB σ 13 i.toNatClampNeg x)) else none := by
  refine (kw_lst (M := wr_PM o M σ) (kw_at (Nat.le_of_ble_eq_true rfl) rfl)).trans ?_
  exact congrArg (fun z => if mj_in i 3200 = true then some z else none) (kw_set (j := 10) (Nat.le_of_ble_eq_true rfl) (fun i h => by
    match i, h with
    | 0, _ => rfl
    | 1, _ => rfl
    | 2, _ => rfl
    | 3, _ => rfl
    | 4, _ => rfl
    | 5, _ => rfl
    | 6, _ => rfl
    | 7, _ => rfl
    | 8, _ => rfl
    | 9, _ => rfl
    | 10, _ => rfl
    | 11, _ => rfl
    | 12, _ => rfl
    | 13, _ => rfl
    | 14, _ => rfl
    | 15, _ => rfl
    | 16, _ => rfl
    | 17, _ => rfl
    | 18, _ => rfl
    | 19, _ => rfl
    | 20, _ => rfl
    | i + 21, h => exact absurd h (by omega)))
theorem wn_PM_14 (o : Nat) (M : mv_M) (σ : kS) : mj_len (wr_PM o M σ) (o + 11) 1 = some 3200 := (mj_len_of (M := wr_PM o M σ) (kw_at (Nat.le_of_ble_eq_true rfl) rfl)).trans rfl
theorem wl_PM_14 (o : Nat) (M : mv_M) (σ : kS) (i : Int32) : mj_lld (wr_PM o M σ) (o + 11) 1 i = mj_tabL (σ.2.2.2 14) 3200 i := kw_lld (M := wr_PM o M σ) (kw_at (Nat.le_of_ble_eq_true rfl) rfl)
theorem wx_PM_14 (o : Nat) (M : mv_M) (σ : kS) (i : Int32) (x : Int64) : mj_lst (wr_PM o M σ) (o + 11) 1 i x = if mj_in i 3200 = true then some (wr_PM o M (kB σ 14 i.toNatClampNeg x)) else none := by
  refine (kw_lst (M := wr_PM o M σ) (kw_at (Nat.le_of_ble_eq_true rfl) rfl)).trans ?_
  exact congrArg (fun z => if mj_in i 3200 = true then some z else none) (kw_set (j := 11) (Nat.le_of_ble_eq_true rfl) (fun i h => by
    match i, h with
    | 0, _ => rfl
    | 1, _ => rfl
    | 2, _ => rfl
    | 3, _ => rfl
    | 4, _ => rfl
    | 5, _ => rfl
    | 6, _ => rfl
    | 7, _ => rfl
    | 8, _ => rfl
    | 9, _ => rfl
    | 10, _ => rfl
    | 11, _ => rfl
    | 12, _ => rfl
    | 13, _ => rfl
    | 14, _ => rfl
    | 15, _ => rfl
    | 16, _ => rfl
    | 17, _ => rfl
    | 18, _ => rfl
    | 19, _ => rfl
    | 20, _ => rfl
    | i + 21, h => exact absurd h (by omega)))
theorem wn_PM_17 (o : Nat) (M : mv_M) (σ : kS) : mj_len (wr_PM o M σ) (o + 12) 1 = some 50 := (mj_len_of (M := wr_PM o M σ) (kw_at (Nat.le_of_ble_eq_true rfl) rfl)).trans rfl
theorem wl_PM_17 (o : Nat) (M : mv_M) (σ : kS) (i : Int32) : mj_lld (wr_PM o M σ) (o + 12) 1 i = mj_tabL (σ.2.2.2 17) 50 i := kw_lld (M := wr_PM o M σ) (kw_at (Nat.le_of_ble_eq_true rfl) rfl)
theorem wx_PM_17 (o : Nat) (M : mv_M) (σ : kS) (i : Int32) (x : Int64) : mj_lst (wr_PM o M σ) (o + 12) 1 i x = if mj_in i 50 = true then some (wr_PM o M (kB σ 17 i.toNatClampNeg x)) else none := by
  refine (kw_lst (M := wr_PM o M σ) (kw_at (Nat.le_of_ble_eq_true rfl) rfl)).trans ?_
  exact congrArg (fun z => if mj_in i 50 = true then some z else none) (kw_set (j := 12) (Nat.le_of_ble_eq_true rfl) (fun i h => by
    match i, h with
    | 0, _ => rfl
    | 1, _ => rfl
    | 2, _ => rfl
    | 3, _ => rfl
    | 4, _ => rfl
    | 5, _ => rfl
    | 6, _ => rfl
    | 7, _ => rfl
    | 8, _ => rfl
    | 9, _ => rfl
    | 10, _ => rfl
    | 11, _ => rfl
    | 12, _ => rfl
    | 13, _ => rfl
    | 14, _ => rfl
    | 15, _ => rfl
    | 16, _ => rfl
    | 17, _ => rfl
    | 18, _ => rfl
    | 19, _ => rfl
    | 20, _ => rfl
    | i + 21, h => exact absurd h (by omega)))
theorem wn_PM_21 (o : Nat) (M : mv_M) (σ : kS) : mj_len (wr_PM o M σ) (o + 13) 0 = some 200 := (mj_len_of (M := wr_PM o M σ) (kw_at (Nat.le_of_ble_eq_true rfl) rfl)).trans rfl
theorem wl_PM_21 (o : Nat) (M : mv_M) (σ : kS) (i : Int32) : mj_ild (wr_PM o M σ) (o + 13) 0 i = mj_tab (σ.2.2.1 21) 200 i := kw_ild (M := wr_PM o M σ) (kw_at (Nat.le_of_ble_eq_true rfl) rfl)
theorem wx_PM_21 (o : Nat) (M : mv_M) (σ : kS) (i : Int32) (x : Int32) : mj_ist (wr_PM o M σ) (o + 13) 0 i x = if mj_in i 200 = true then some (wr_PM o M (kA σ 21 i.toNatClampNeg x)) else none := by
  refine (kw_ist (M := wr_PM o M σ) (kw_at (Nat.le_of_ble_eq_true rfl) rfl)).trans ?_
  exact congrArg (fun z => if mj_in i 200 = true then some z else none) (kw_set (j := 13) (Nat.le_of_ble_eq_true rfl) (fun i h => by
    match i, h with
    | 0, _ => rfl
    | 1, _ => rfl
    | 2, _ => rfl
    | 3, _ => rfl
    | 4, _ => rfl
    | 5, _ => rfl
    | 6, _ => rfl
    | 7, _ => rfl
    | 8, _ => rfl
    | 9, _ => rfl
    | 10, _ => rfl
    | 11, _ => rfl
    | 12, _ => rfl
    | 13, _ => rfl
    | 14, _ => rfl
    | 15, _ => rfl
    | 16, _ => rfl
    | 17, _ => rfl
    | 18, _ => rfl
    | 19, _ => rfl
    | 20, _ => rfl
    | i + 21, h => exact absurd h (by omega)))
theorem wn_PM_27 (o : Nat) (M : mv_M) (σ : kS) : mj_len (wr_PM o M σ) (o + 14) 0 = some 256 := (mj_len_of (M := wr_PM o M σ) (kw_at (Nat.le_of_ble_eq_true rfl) rfl)).trans rfl
theorem wl_PM_27 (o : Nat) (M : mv_M) (σ : kS) (i : Int32) : mj_ild (wr_PM o M σ) (o + 14) 0 i = mj_tab (σ.2.2.1 27) 256 i := kw_ild (M := wr_PM o M σ) (kw_at (Nat.le_of_ble_eq_true rfl) rfl)
theorem wx_PM_27 (o : Nat) (M : mv_M) (σ : kS) (i : Int32) (x : Int32) : mj_ist (wr_PM o M σ) (o + 14) 0 i x = if mj_in i 256 = true then some (wr_PM o M (kA σ 27 i.toNatClampNeg x)) else none := by
  refine (kw_ist (M := wr_PM o M σ) (kw_at (Nat.le_of_ble_eq_true rfl) rfl)).trans ?_
  exact congrArg (fun z => if mj_in i 256 = true then some z else none) (kw_set (j := 14) (Nat.le_of_ble_eq_true rfl) (fun i h => by
    match i, h with
    | 0, _ => rfl
    | 1, _ => rfl
    | 2, _ => rfl
    | 3, _ => rfl
    | 4, _ => rfl
    | 5, _ => rfl
    | 6, _ => rfl
    | 7, _ => rfl
    | 8, _ => rfl
    | 9, _ => rfl
    | 10, _ => rfl
    | 11, _ => rfl
    | 12, _ => rfl
    | 13, _ => rfl
    | 14, _ => rfl
    | 15, _ => rfl
    | 16, _ => rfl
    | 17, _ => rfl
    | 18, _ => rfl
    | 19, _ => rfl
    | 20, _ => rfl
    | i + 21, h => exact absurd h (by omega)))
theorem wn_PM_29 (o : Nat) (M : mv_M) (σ : kS) : mj_len (wr_PM o M σ) (o + 15) 0 = some 40 := (mj_len_of (M := wr_PM o M σ) (kw_at (Nat.le_of_ble_eq_true rfl) rfl)).trans rfl
theorem wl_PM_29 (o : Nat) (M : mv_M) (σ : kS) (i : Int32) : mj_ild (wr_PM o M σ) (o + 15) 0 i = mj_tab (σ.2.2.1 29) 40 i := kw_ild (M := wr_PM o M σ) (kw_at (Nat.le_of_ble_eq_true rfl) rfl)
theorem wx_PM_29 (o : Nat) (M : mv_M) (σ : kS) (i : Int32) (x : Int32) : mj_ist (wr_PM o M σ) (o + 15) 0 i x = if mj_in i 40 = true then some (wr_PM o M (kA σ 29 i.toNatClampNeg x)) else none := by
  refine (kw_ist (M := wr_PM o M σ) (kw_at (Nat.le_of_ble_eq_true rfl) rfl)).trans ?_
  exact congrArg (fun z => if mj_in i 40 = true then some z else none) (kw_set (j := 15) (Nat.le_of_ble_eq_true rfl) (fun i h => by
    match i, h with
    | 0, _ => rfl
    | 1, _ => rfl
    | 2, _ => rfl
    | 3, _ => rfl
    | 4, _ => rfl
    | 5, _ => rfl
    | 6, _ => rfl
    | 7, _ => rfl
    | 8, _ => rfl
    | 9, _ => rfl
    | 10, _ => rfl
    | 11, _ => rfl
    | 12, _ => rfl
    | 13, _ => rfl
    | 14, _ => rfl
    | 15, _ => rfl
    | 16, _ => rfl
    | 17, _ => rfl
    | 18, _ => rfl
    | 19, _ => rfl
    | 20, _ => rfl
    | i + 21, h => exact absurd h (by omega)))
theorem wn_PM_30 (o : Nat) (M : mv_M) (σ : kS) : mj_len (wr_PM o M σ) (o + 16) 2 = some 40 := (mj_len_of (M := wr_PM o M σ) (kw_at (Nat.le_of_ble_eq_true rfl) rfl)).trans rfl
theorem wl_PM_30 (o : Nat) (M : mv_M) (σ : kS) (i : Int32) : mj_ild (wr_PM o M σ) (o + 16) 2 i = mj_tab (σ.2.2.1 30) 40 i := kw_ild (M := wr_PM o M σ) (kw_at (Nat.le_of_ble_eq_true rfl) rfl)
theorem wx_PM_30 (o : Nat) (M : mv_M) (σ : kS) (i : Int32) (x : Int32) : mj_ist (wr_PM o M σ) (o + 16) 2 i x = if mj_in i 40 = true then some (wr_PM o M (kA σ 30 i.toNatClampNeg x)) else none := by
  refine (kw_ist (M := wr_PM o M σ) (kw_at (Nat.le_of_ble_eq_true rfl) rfl)).trans ?_
  exact congrArg (fun z => if mj_in i 40 = true then some z else none) (kw_set (j := 16) (Nat.le_of_ble_eq_true rfl) (fun i h => by
    match i, h with
    | 0, _ => rfl
    | 1, _ => rfl
    | 2, _ => rfl
    | 3, _ => rfl
    | 4, _ => rfl
    | 5, _ => rfl
    | 6, _ => rfl
    | 7, _ => rfl
    | 8, _ => rfl
    | 9, _ => rfl
    | 10, _ => rfl
    | 11, _ => rfl
    | 12, _ => rfl
    | 13, _ => rfl
    | 14, _ => rfl
    | 15, _ => rfl
    | 16, _ => rfl
    | 17, _ => rfl
    | 18, _ => rfl
    | 19, _ => rfl
    | 20, _ => rfl
    | i + 21, h => exact absurd h (by omega)))
theorem wn_PM_32 (o : Nat) (M : mv_M) (σ : kS) : mj_len (wr_PM o M σ) (o + 17) 0 = some 200 := (mj_len_of (M := wr_PM o M σ) (kw_at (Nat.le_of_ble_eq_true rfl) rfl)).trans rfl
theorem wl_PM_32 (o : Nat) (M : mv_M) (σ : kS) (i : Int32) : mj_ild (wr_PM o M σ) (o + 17) 0 i = mj_tab (σ.2.2.1 32) 200 i := kw_ild (M := wr_PM o M σ) (kw_at (Nat.le_of_ble_eq_true rfl) rfl)
theorem wx_PM_32 (o : Nat) (M : mv_M) (σ : kS) (i : Int32) (x : Int32) : mj_ist (wr_PM o M σ) (o + 17) 0 i x = if mj_in i 200 = true then some (wr_PM o M (kA σ 32 i.toNatClampNeg x)) else none := by
  refine (kw_ist (M := wr_PM o M σ) (kw_at (Nat.le_of_ble_eq_true rfl) rfl)).trans ?_
  exact congrArg (fun z => if mj_in i 200 = true then some z else none) (kw_set (j := 17) (Nat.le_of_ble_eq_true rfl) (fun i h => by
    match i, h with
    | 0, _ => rfl
    | 1, _ => rfl
    | 2, _ => rfl
    | 3, _ => rfl
    | 4, _ => rfl
    | 5, _ => rfl
    | 6, _ => rfl
    | 7, _ => rfl
    | 8, _ => rfl
    | 9, _ => rfl
    | 10, _ => rfl
    | 11, _ => rfl
    | 12, _ => rfl
    | 13, _ => rfl
    | 14, _ => rfl
    | 15, _ => rfl
    | 16, _ => rfl
    | 17, _ => rfl
    | 18, _ => rfl
    | 19, _ => rfl
    | 20, _ => rfl
    | i + 21, h => exact absurd h (by omega)))
theorem wn_PM_34 (o : Nat) (M : mv_M) (σ : kS) : mj_len (wr_PM o M σ) (o + 18) 0 = some 60 := (mj_len_of (M := wr_PM o M σ) (kw_at (Nat.le_of_ble_eq_true rfl) rfl)).trans rfl
theorem wl_PM_34 (o : Nat) (M : mv_M) (σ : kS) (i : Int32) : mj_ild (wr_PM o M σ) (o + 18) 0 i = mj_tab (σ.2.2.1 34) 60 i := kw_ild (M := wr_PM o M σ) (kw_at (Nat.le_of_ble_eq_true rfl) rfl)
theorem wx_PM_34 (o : Nat) (M : mv_M) (σ : kS) (i : Int32) (x : Int32) : mj_ist (wr_PM o M σ) (o + 18) 0 i x = if mj_in i 60 = true then some (wr_PM o M (kA σ 34 i.toNatClampNeg x)) else none := by
  refine (kw_ist (M := wr_PM o M σ) (kw_at (Nat.le_of_ble_eq_true rfl) rfl)).trans ?_
  exact congrArg (fun z => if mj_in i 60 = true then some z else none) (kw_set (j := 18) (Nat.le_of_ble_eq_true rfl) (fun i h => by
    match i, h with
    | 0, _ => rfl
    | 1, _ => rfl
    | 2, _ => rfl
    | 3, _ => rfl
    | 4, _ => rfl
    | 5, _ => rfl
    | 6, _ => rfl
    | 7, _ => rfl
    | 8, _ => rfl
    | 9, _ => rfl
    | 10, _ => rfl
    | 11, _ => rfl
    | 12, _ => rfl
    | 13, _ => rfl
    | 14, _ => rfl
    | 15, _ => rfl
    | 16, _ => rfl
    | 17, _ => rfl
    | 18, _ => rfl
    | 19, _ => rfl
    | 20, _ => rfl
    | i + 21, h => exact absurd h (by omega)))
theorem wn_PM_35 (o : Nat) (M : mv_M) (σ : kS) : mj_len (wr_PM o M σ) (o + 19) 0 = some 60 := (mj_len_of (M := wr_PM o M σ) (kw_at (Nat.le_of_ble_eq_true rfl) rfl)).trans rfl
theorem wl_PM_35 (o : Nat) (M : mv_M) (σ : kS) (i : Int32) : mj_ild (wr_PM o M σ) (o + 19) 0 i = mj_tab (σ.2.2.1 35) 60 i := kw_ild (M := wr_PM o M σ) (kw_at (Nat.le_of_ble_eq_true rfl) rfl)
theorem wx_PM_35 (o : Nat) (M : mv_M) (σ : kS) (i : Int32) (x : Int32) : mj_ist (wr_PM o M σ) (o + 19) 0 i x = if mj_in i 60 = true then some (wr_PM o M (kA σ 35 i.toNatClampNeg x)) else none := by
  refine (kw_ist (M := wr_PM o M σ) (kw_at (Nat.le_of_ble_eq_true rfl) rfl)).trans ?_
  exact congrArg (fun z => if mj_in i 60 = true then some z else none) (kw_set (j := 19) (Nat.le_of_ble_eq_true rfl) (fun i h => by
    match i, h with
    | 0, _ => rfl
    | 1, _ => rfl
    | 2, _ => rfl
    | 3, _ => rfl
    | 4, _ => rfl
    | 5, _ => rfl
    | 6, _ => rfl
    | 7, _ => rfl
    | 8, _ => rfl
    | 9, _ => rfl
    | 10, _ => rfl
    | 11, _ => rfl
    | 12, _ => rfl
    | 13, _ => rfl
    | 14, _ => rfl
    | 15, _ => rfl
    | 16, _ => rfl
    | 17, _ => rfl
    | 18, _ => rfl
    | 19, _ => rfl
    | 20, _ => rfl
    | i + 21, h => exact absurd h (by omega)))
theorem wn_PM_36 (o : Nat) (M : mv_M) (σ : kS) : mj_len (wr_PM o M σ) (o + 20) 0 = some 60 := (mj_len_of (M := wr_PM o M σ) (kw_at (Nat.le_of_ble_eq_true rfl) rfl)).trans rfl
theorem wl_PM_36 (o : Nat) (M : mv_M) (σ : kS) (i : Int32) : mj_ild (wr_PM o M σ) (o + 20) 0 i = mj_tab (σ.2.2.1 36) 60 i := kw_ild (M := wr_PM o M σ) (kw_at (Nat.le_of_ble_eq_true rfl) rfl)
theorem wx_PM_36 (o : Nat) (M : mv_M) (σ : kS) (i : Int32) (x : Int32) : mj_ist (wr_PM o M σ) (o + 20) 0 i x = if mj_in i 60 = true then some (wr_PM o M (kA σ 36 i.toNatClampNeg x)) else none := by
  refine (kw_ist (M := wr_PM o M σ) (kw_at (Nat.le_of_ble_eq_true rfl) rfl)).trans ?_
  exact congrArg (fun z => if mj_in i 60 = true then some z else none) (kw_set (j := 20) (Nat.le_of_ble_eq_true rfl) (fun i h => by
    match i, h with
    | 0, _ => rfl
    | 1, _ => rfl
    | 2, _ => rfl
    | 3, _ => rfl
    | 4, _ => rfl
    | 5, _ => rfl
    | 6, _ => rfl
    | 7, _ => rfl
    | 8, _ => rfl
    | 9, _ => rfl
    | 10, _ => rfl
    | 11, _ => rfl
    | 12, _ => rfl
    | 13, _ => rfl
    | 14, _ => rfl
    | 15, _ => rfl
    | 16, _ => rfl
    | 17, _ => rfl
    | 18, _ => rfl
    | 19, _ => rfl
    | 20, _ => rfl
    | i + 21, h => exact absurd h (by omega)))
