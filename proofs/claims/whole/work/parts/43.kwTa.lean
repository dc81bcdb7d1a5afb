def wF_Ta (o : Nat) (σ : kS) : List Value := [.ref (o + 1), .ref (o + 2), .ref (o + 3), .ref (o + 4), .int (σ.1 4)]
def wc_Ta (o : Nat) (σ : kS) : Nat → Option va_E := fun j => match j with
  | 0 => some (.inr (6, wF_Ta o σ))
  | 1 => some (.inl (0, 160, .inl (σ.2.2.1 0)))
  | 2 => some (.inl (0, 40, .inl (σ.2.2.1 1)))
  | 3 => some (.inl (0, 4, .inl (σ.2.2.1 2)))
  | 4 => some (.inl (0, 4, .inl (σ.2.2.1 3)))
  | _ => none
def wr_Ta (o : Nat) (M : mv_M) (σ : kS) : mv_M := kw_over o 4 (wc_Ta o σ) M
abbrev wq_Ta {α : Type} (o : Nat) (M : mv_M) : α × kS → α × mv_M := fun q => (q.1, wr_Ta o M q.2)
theorem wo_Ta {β : Type} (o : Nat) (M : mv_M) (σ : kS) (A : Option β) : mj_ob (wr_Ta o M σ) o 6 A = A := mj_ob_of (kw_at0 (by rfl))
theorem wg_Ta_0 (o : Nat) (M : mv_M) (σ : kS) : mj_getR (wr_Ta o M σ) o 6 0 = some (some (o + 1)) := mj_getR_of (x := some (o + 1)) (kw_at0 (by rfl)) rfl
theorem wg_Ta_1 (o : Nat) (M : mv_M) (σ : kS) : mj_getR (wr_Ta o M σ) o 6 1 = some (some (o + 2)) := mj_getR_of (x := some (o + 2)) (kw_at0 (by rfl)) rfl
theorem wg_Ta_2 (o : Nat) (M : mv_M) (σ : kS) : mj_getR (wr_Ta o M σ) o 6 2 = some (some (o + 3)) := mj_getR_of (x := some (o + 3)) (kw_at0 (by rfl)) rfl
theorem wg_Ta_3 (o : Nat) (M : mv_M) (σ : kS) : mj_getR (wr_Ta o M σ) o 6 3 = some (some (o + 4)) := mj_getR_of (x := some (o + 4)) (kw_at0 (by rfl)) rfl
theorem wg_Ta_4 (o : Nat) (M : mv_M) (σ : kS) : mj_getI (wr_Ta o M σ) o 6 4 = some (σ.1 4) := mj_getI_of (kw_at0 (by rfl)) rfl
theorem wp_Ta_4 (o : Nat) (M : mv_M) (σ : kS) (v : Int32) : mj_put (wr_Ta o M σ) o 6 4 (.int v) = some (wr_Ta o M (kI σ 4 v)) := by
  refine (mj_put_of (M := wr_Ta o M σ) (fs := wF_Ta o σ) (kw_at0 rfl) (Nat.le_of_ble_eq_true rfl)).trans ?_
  exact congrArg some (kw_set (j := 0) (Nat.zero_le _) (fun i h => by
    match i, h with
    | 0, _ => rfl
    | 1, _ => rfl
    | 2, _ => rfl
    | 3, _ => rfl
    | 4, _ => rfl
    | i + 5, h => exact absurd h (by omega)))
theorem wn_Ta_0 (o : Nat) (M : mv_M) (σ : kS) : mj_len (wr_Ta o M σ) (o + 1) 0 = some 160 := (mj_len_of (M := wr_Ta o M σ) (kw_at (Nat.le_of_ble_eq_true rfl) rfl)).trans rfl
theorem wl_Ta_0 (o : Nat) (M : mv_M) (σ : kS) (i : Int32) : mj_ild (wr_Ta o M σ) (o + 1) 0 i = mj_tab (σ.2.2.1 0) 160 i := kw_ild (M := wr_Ta o M σ) (kw_at (Nat.le_of_ble_eq_true rfl) rfl)
theorem wx_Ta_0 (o : Nat) (M : mv_M) (σ : kS) (i : Int32) (x : Int32) : mj_ist (wr_Ta o M σ) (o + 1) 0 i x = if mj_in i 160 = true then some (wr_Ta o M (kA σ 0 i.toNatClampNeg x)) else none := by
  refine (kw_ist (M := wr_Ta o M σ) (kw_at (Nat.le_of_ble_eq_true rfl) rfl)).trans ?_
  exact congrArg (fun z => if mj_in i 160 = true then some z else none) (kw_set (j := 1) (Nat.le_of_ble_eq_true rfl) (fun i h => by
    match i, h with
    | 0, _ => rfl
    | 1, _ => rfl
    | 2, _ => rfl
    | 3, _ => rfl
    | 4, _ => rfl
    | i + 5, h => exact absurd h (by omega)))
theorem wn_Ta_1 (o : Nat) (M : mv_M) (σ : kS) : mj_len (wr_Ta o M σ) (o + 2) 0 = some 40 := (mj_len_of (M := wr_Ta o M σ) (kw_at (Nat.le_of_ble_eq_true rfl) rfl)).trans rfl
theorem wl_Ta_1 (o : Nat) (M : mv_M) (σ : kS) (i : Int32) : mj_ild (wr_Ta o M σ) (o + 2) 0 i = mj_tab (σ.2.2.1 1) 40 i := kw_ild (M := wr_Ta o M σ) (kw_at (Nat.le_of_ble_eq_true rfl) rfl)
theorem wx_Ta_1 (o : Nat) (M : mv_M) (σ : kS) (i : Int32) (x : Int32) : mj_ist (wr_Ta o M σ) (o + 2) 0 i x = if mj_in i 40 = true then some (wr_Ta o M (kA σ 1 i.toNatClampNeg x)) else none := by
  refine (kw_ist (M := wr_Ta o M σ) (kw_at (Nat.le_of_ble_eq_true rfl) rfl)).trans ?_
  exact congrArg (fun z => if mj_in i 40 = true then some z else none) (kw_set (j := 2) (Nat.le_of_ble_eq_true rfl) (fun i h => by
    match i, h with
    | 0, _ => rfl
    | 1, _ => rfl
    | 2, _ => rfl
    | 3, _ => rfl
    | 4, _ => rfl
    | i + 5, h => exact absurd h (by omega)))
theorem wn_Ta_2 (o : Nat) (M : mv_M) (σ : kS) : mj_len (wr_Ta o M σ) (o + 3) 0 = some 4 := (mj_len_of (M := wr_Ta o M σ) (kw_at (Nat.le_of_ble_eq_true rfl) rfl)).trans rfl
theorem wl_Ta_2 (o : Nat) (M : mv_M) (σ : kS) (i : Int32) : mj_ild (wr_Ta o M σ) (o + 3) 0 i = mj_tab (σ.2.2.1 2) 4 i := kw_ild (M := wr_Ta o M σ) (kw_at (Nat.le_of_ble_eq_true rfl) rfl)
theorem wx_Ta_2 (o : Nat) (M : mv_M) (σ : kS) (i : Int32) (x : Int32) : mj_ist (wr_Ta o M σ) (o + 3) 0 i x = if mj_in i 4 = true then some (wr_Ta o M (kA σ 2 i.toNatClampNeg x)) else none := by
  refine (kw_ist (M := wr_Ta o M σ) (kw_at (Nat.le_of_ble_eq_true rfl) rfl)).trans ?_
  exact congrArg (fun z => if mj_in i 4 = true then some z else none) (kw_set (j := 3) (Nat.le_of_ble_eq_true rfl) (fun i h => by
    match i, h with
    | 0, _ => rfl
    | 1, _ => rfl
    | 2, _ => rfl
    | 3, _ => rfl
    | 4, _ => rfl
    | i + 5, h => exact absurd h (by omega)))
theorem wn_Ta_3 (o : Nat) (M : mv_M) (σ : kS) : mj_len (wr_Ta o M σ) (o + 4) 0 = some 4 := (mj_len_of (M := wr_Ta o M σ) (kw_at (Nat.le_of_ble_eq_true rfl) rfl)).trans rfl
theorem wl_Ta_3 (o : Nat) (M : mv_M) (σ : kS) (i : Int32) : mj_ild (wr_Ta o M σ) (o + 4) 0 i = mj_tab (σ.2.2.1 3) 4 i := kw_ild (M := wr_Ta o M σ) (kw_at (Nat.le_of_ble_eq_true rfl) rfl)
theorem wx_Ta_3 (o : Nat) (M : mv_M) (σ : kS) (i : Int32) (x : Int32) : mj_ist (wr_Ta o M σ) (o + 4) 0 i x = if mj_in i 4 = true then some (wr_Ta o M (kA σ 3 i.toNatClampNeg x)) else none := by
  refine (kw_ist (M := wr_Ta o M σ) (kw_at (Nat.le_of_ble_eq_true rfl) rfl)).trans ?_
  exact congrArg (fun z => if mj_in i 4 = true then some z else none) (kw_set (j := 4) (Nat.le_of_ble_eq_true rfl) (fun i h => by
    match i, h with
    | 0, _ => rfl
    | 1, _ => rfl
    | 2, _ => rfl
    | 3, _ => rfl
    | 4, _ => rfl
    | i + 5, h => exact absurd h (by omega)))
