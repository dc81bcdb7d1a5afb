def wF_Tk (o : Nat) (σ : kS) : List Value := [.ref (o + 1), .ref (o + 2), .ref (o + 3), .ref (o + 4), .ref (o + 5), .int (σ.1 5), .int (σ.1 6)]
def wc_Tk (o : Nat) (σ : kS) : Nat → Option va_E := fun j => match j with
  | 0 => some (.inr (8, wF_Tk o σ))
  | 1 => some (.inl (0, 200, .inl (σ.2.2.1 0)))
  | 2 => some (.inl (0, 60, .inl (σ.2.2.1 1)))
  | 3 => some (.inl (0, 60, .inl (σ.2.2.1 2)))
  | 4 => some (.inl (0, 60, .inl (σ.2.2.1 3)))
  | 5 => some (.inl (0, 7396, .inl (σ.2.2.1 4)))
  | _ => none
def wr_Tk (o : Nat) (M : mv_M) (σ : kS) : mv_M := kw_over o 5 (wc_Tk o σ) M
abbrev wq_Tk {α : Type} (o : Nat) (M : mv_M) : α × kS → α × mv_M := fun q => (q.1, wr_Tk o M q.2)
theorem wo_Tk {β : Type} (o : Nat) (M : mv_M) (σ : kS) (A : Option β) : mj_ob (wr_Tk o M σ) o 8 A = A := mj_ob_of (kw_at0 (by rfl))
theorem wg_Tk_0 (o : Nat) (M : mv_M) (σ : kS) : mj_getR (wr_Tk o M σ) o 8 0 = some (some (o + 1)) := mj_getR_of (x := some (o + 1)) (kw_at0 (by rfl)) rfl
theorem wg_Tk_1 (o : Nat) (M : mv_M) (σ : kS) : mj_getR (wr_Tk o M σ) o 8 1 = some (some (o + 2)) := mj_getR_of (x := some (o + 2)) (kw_at0 (by rfl)) rfl
theorem wg_Tk_2 (o : Nat) (M : mv_M) (σ : kS) : mj_getR (wr_Tk o M σ) o 8 2 = some (some (o + 3)) := mj_getR_of (x := some (o + 3)) (kw_at0 (by rfl)) rfl
theorem wg_Tk_3 (o : Nat) (M : mv_M) (σ : kS) : mj_getR (wr_Tk o M σ) o 8 3 = some (some (o + 4)) := mj_getR_of (x := some (o + 4)) (kw_at0 (by rfl)) rfl
theorem wg_Tk_4 (o : Nat) (M : mv_M) (σ : kS) : mj_getR (wr_Tk o M σ) o 8 4 = some (some (o + 5)) := mj_getR_of (x := some (o + 5)) (kw_at0 (by rfl)) rfl
theorem wg_Tk_5 (o : Nat) (M : mv_M) (σ : kS) : mj_getI (wr_Tk o M σ) o 8 5 = some (σ.1 5) := mj_getI_of (kw_at0 (by rfl)) rfl
theorem wp_Tk_5 (o : Nat) (M : mv_M) (σ : kS) (v : Int32) : mj_put (wr_Tk o M σ) o 8 5 (.int v) = some (wr_Tk o M (kI σ 5 v)) := by
  refine (mj_put_of (M := wr_Tk o M σ) (fs := wF_Tk o σ) (kw_at0 rfl) (Nat.le_of_ble_eq_true rfl)).trans ?_
  exact congrArg some (kw_set (j := 0) (Nat.zero_le _) (fun i h => by
    match i, h with
    | 0, _ => rfl
    | 1, _ => rfl
    | 2, _ => rfl
    | 3, _ => rfl
    | 4, _ => rfl
    | 5, _ => rfl
    | i + 6, h => exact absurd h (by omega)))
theorem wg_Tk_6 (o : Nat) (M : mv_M) (σ : kS) : mj_getI (wr_Tk o M σ) o 8 6 = some (σ.1 6) := mj_getI_of (kw_at0 (by rfl)) rfl
theorem wp_Tk_6 (o : Nat) (M : mv_M) (σ : kS) (v : Int32) : mj_put (wr_Tk o M σ) o 8 6 (.int v) = some (wr_Tk o M (kI σ 6 v)) := by
  refine (mj_put_of (M := wr_Tk o M σ) (fs := wF_Tk o σ) (kw_at0 rfl) (Nat.le_of_ble_eq_true rfl)).trans ?_
  exact congrArg some (kw_set (j := 0) (Nat.zero_le _) (fun i h => by
    match i, h with
    | 0, _ => rfl
    | 1, _ => rfl
    | 2, _ => rfl
    | 3, _ => rfl
    | 4, _ => rfl
    | 5, _ => rfl
    | i + 6, h => exact absurd h (by omega)))
theorem wn_Tk_0 (o : Nat) (M : mv_M) (σ : kS) : mj_len (wr_Tk o M σ) (o + 1) 0 = some 200 := (mj_len_of (M := wr_Tk o M σ) (kw_at (Nat.le_of_ble_eq_true rfl) rfl)).trans rfl
theorem wl_Tk_0 (o : Nat) (M : mv_M) (σ : kS) (i : Int32) : mj_ild (wr_Tk o M σ) (o + 1) 0 i = mj_tab (σ.2.2.1 0) 200 i := kw_ild (M := wr_Tk o M σ) (kw_at (Nat.le_of_ble_eq_true rfl) rfl)
theorem wx_Tk_0 (o : Nat) (M : mv_M) (σ : kS) (i : Int32) (x : Int32) : mj_ist (wr_Tk o M σ) (o + 1) 0 i x = if mj_in i 200 = true then some (wr_Tk o M (kA σ 0 i.toNatClampNeg x)) else none := by
  refine (kw_ist (M := wr_Tk o M σ) (kw_at (Nat.le_of_ble_eq_true rfl) rfl)).trans ?_
  exact congrArg (fun z => if mj_in i 200 = true then some z else none) (kw_set (j := 1) (Nat.le_of_ble_eq_true rfl) (fun i h => by
    match i, h with
    | 0, _ => rfl
    | 1, _ => rfl
    | 2, _ => rfl
    | 3, _ => rfl
    | 4, _ => rfl
    | 5, _ => rfl
    | i + 6, h => exact absurd h (by omega)))
theorem wn_Tk_1 (o : Nat) (M : mv_M) (σ : kS) : mj_len (wr_Tk o M σ) (o + 2) 0 = some 60 := (mj_len_of (M := wr_Tk o M σ) (kw_at (Nat.le_of_ble_eq_true rfl) rfl)).trans rfl
theorem wl_Tk_1 (o : Nat) (M : mv_M) (σ : kS) (i : Int32) : mj_ild (wr_Tk o M σ) (o + 2) 0 i = mj_tab (σ.2.2.1 1) 60 i := kw_ild (M := wr_Tk o M σ) (kw_at (Nat.le_of_ble_eq_true rfl) rfl)
theorem wx_Tk_1 (o : Nat) (M : mv_M) (σ : kS) (i : Int32) (x : Int32) : mj_ist (wr_Tk o M σ) (o + 2) 0 i x = if mj_in i 60 = true then some (wr_Tk o M (kA σ 1 i.toNatClampNeg x)) else none := by
  refine (kw_ist (M := wr_Tk o M σ) (kw_at (Nat.le_of_ble_eq_true rfl) rfl)).trans ?_
  exact congrArg (fun z => if mj_in i 60 = true then some z else none) (kw_set (j := 2) (Nat.le_of_ble_eq_true rfl) (fun i h => by
    match i, h with
    | 0, _ => rfl
    | 1, _ => rfl
    | 2, _ => rfl
    | 3, _ => rfl
    | 4, _ => rfl
    | 5, _ => rfl
    | i + 6, h => exact absurd h (by omega)))
theorem wn_Tk_2 (o : Nat) (M : mv_M) (σ : kS) : mj_len (wr_Tk o M σ) (o + 3) 0 = some 60 := (mj_len_of (M := wr_Tk o M σ) (kw_at (Nat.le_of_ble_eq_true rfl) rfl)).trans rfl
theorem wl_Tk_2 (o : Nat) (M : mv_M) (σ : kS) (i : Int32) : mj_ild (wr_Tk o M σ) (o + 3) 0 i = mj_tab (σ.2.2.1 2) 60 i := kw_ild (M := wr_Tk o M σ) (kw_at (Nat.le_of_ble_eq_true rfl) rfl)
theorem wx_Tk_2 (o : Nat) (M : mv_M) (σ : kS) (i : Int32) (x : Int32) : mj_ist (wr_Tk o M σ) (o + 3) 0 i x = if mj_in i 60 = true then some (wr_Tk o M (kA σ 2 i.toNatClampNeg x)) else none := by
  refine (kw_ist (M := wr_Tk o M σ) (kw_at (Nat.le_of_ble_eq_true rfl) rfl)).trans ?_
  exact congrArg (fun z => if mj_in i 60 = true then some z else none) (kw_set (j := 3) (Nat.le_of_ble_eq_true rfl) (fun i h => by
    match i, h with
    | 0, _ => rfl
    | 1, _ => rfl
    | 2, _ => rfl
    | 3, _ => rfl
    | 4, _ => rfl
    | 5, _ => rfl
    | i + 6, h => exact absurd h (by omega)))
theorem wn_Tk_3 (o : Nat) (M : mv_M) (σ : kS) : mj_len (wr_Tk o M σ) (o + 4) 0 = some 60 := (mj_len_of (M := wr_Tk o M σ) (kw_at (Nat.le_of_ble_eq_true rfl) rfl)).trans rfl
theorem wl_Tk_3 (o : Nat) (M : mv_M) (σ : kS) (i : Int32) : mj_ild (wr_Tk o M σ) (o + 4) 0 i = mj_tab (σ.2.2.1 3) 60 i := kw_ild (M := wr_Tk o M σ) (kw_at (Nat.le_of_ble_eq_true rfl) rfl)
theorem wx_Tk_3 (o : Nat) (M : mv_M) (σ : kS) (i : Int32) (x : Int32) : mj_ist (wr_Tk o M σ) (o + 4) 0 i x = if mj_in i 60 = true then some (wr_Tk o M (kA σ 3 i.toNatClampNeg x)) else none := by
  refine (kw_ist (M := wr_Tk o M σ) (kw_at (Nat.le_of_ble_eq_true rfl) rfl)).trans ?_
  exact congrArg (fun z => if mj_in i 60 = true then some z else none) (kw_set (j := 4) (Nat.le_of_ble_eq_true rfl) (fun i h => by
    match i, h with
    | 0, _ => rfl
    | 1, _ => rfl
    | 2, _ => rfl
    | 3, _ => rfl
    | 4, _ => rfl
    | 5, _ => rfl
    | i + 6, h => exact absurd h (by omega)))
theorem wn_Tk_4 (o : Nat) (M : mv_M) (σ : kS) : mj_len (wr_Tk o M σ) (o + 5) 0 = some 7396 := (mj_len_of (M := wr_Tk o M σ) (kw_at (Nat.le_of_ble_eq_true rfl) rfl)).trans rfl
theorem wl_Tk_4 (o : Nat) (M : mv_M) (σ : kS) (i : Int32) : mj_ild (wr_Tk o M σ) (o + 5) 0 i = mj_tab (σ.2.2.1 4) 7396 i := kw_ild (M := wr_Tk o M σ) (kw_at (Nat.le_of_ble_eq_true rfl) rfl)
theorem wx_Tk_4 (o : Nat) (M : mv_M) (σ : kS) (i : Int32) (x : Int32) : mj_ist (wr_Tk o M σ) (o + 5) 0 i x = if mj_in i 7396 = true then some (wr_Tk o M (kA σ 4 i.toNatClampNeg x)) else none := by
  refine (kw_ist (M := wr_Tk o M σ) (kw_at (Nat.le_of_ble_eq_true rfl) rfl)).trans ?_
  exact congrArg (fun z => if mj_in i 7396 = true then some z else none) (kw_set (j := 5) (Nat.le_of_ble_eq_true rfl) (fun i h => by
    match i, h with
    | 0, _ => rfl
    | 1, _ => rfl
    | 2, _ => rfl
    | 3, _ => rfl
    | 4, _ => rfl
    | 5, _ => rfl
    | i + 6, h => exact absurd h (by omega)))
