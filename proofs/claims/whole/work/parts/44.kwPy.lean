def wF_Py (o : Nat) (σ : kS) : List Value := [.ref (o + 1), .int (σ.1 1)]
def wc_Py (o : Nat) (σ : kS) : Nat → Option va_E := fun j => match j with
  | 0 => some (.inr (3, wF_Py o σ))
  | 1 => some (.inl (0, 256, .inl (σ.2.2.1 0)))
  | _ => none
def wr_Py (o : Nat) (M : mv_M) (σ : kS) : mv_M := kw_over o 1 (wc_Py o σ) M
abbrev wq_Py {α : Type} (o : Nat) (M : mv_M) : α × kS → α × mv_M := fun q => (q.1, wr_Py o M q.2)
theorem wo_Py {β : Type} (o : Nat) (M : mv_M) (σ : kS) (A : Option β) : mj_ob (wr_Py o M σ) o 3 A = A := mj_ob_of (kw_at0 (by rfl))
theorem wg_Py_0 (o : Nat) (M : mv_M) (σ : kS) : mj_getR (wr_Py o M σ) o 3 0 = some (some (o + 1)) := mj_getR_of (x := some (o + 1)) (kw_at0 (by rfl)) rfl
theorem wg_Py_1 (o : Nat) (M : mv_M) (σ : kS) : mj_getI (wr_Py o M σ) o 3 1 = some (σ.1 1) := mj_getI_of (kw_at0 (by rfl)) rfl
theorem wp_Py_1 (o : Nat) (M : mv_M) (σ : kS) (v : Int32) : mj_put (wr_Py o M σ) o 3 1 (.int v) = some (wr_Py o M (kI σ 1 v)) := by
  refine (mj_put_of (M := wr_Py o M σ) (fs := wF_Py o σ) (kw_at0 rfl) (Nat.le_of_ble_eq_true rfl)).trans ?_
  exact congrArg some (kw_set (j := 0) (Nat.zero_le _) (fun i h => by
    match i, h with
    | 0, _ => rfl
    | 1, _ => rfl
    | i + 2, h => exact absurd h (by omega)))
theorem wn_Py_0 (o : Nat) (M : mv_M) (σ : kS) : mj_len (wr_Py o M σ) (o + 1) 0 = some 256 := (mj_len_of (M := wr_Py o M σ) (kw_at (Nat.le_of_ble_eq_true rfl) rfl)).trans rfl
theorem wl_Py_0 (o : Nat) (M : mv_M) (σ : kS) (i : Int32) : mj_ild (wr_Py o M σ) (o + 1) 0 i = mj_tab (σ.2.2.1 0) 256 i := kw_ild (M := wr_Py o M σ) (kw_at (Nat.le_of_ble_eq_true rfl) rfl)
theorem wx_Py_0 (o : Nat) (M : mv_M) (σ : kS) (i : Int32) (x : Int32) : mj_ist (wr_Py o M σ) (o + 1) 0 i x = if mj_in i 256 = true then some (wr_Py o M (kA σ 0 i.toNatClampNeg x)) else none := by
  refine (kw_ist (M := wr_Py o M σ) (kw_at (Nat.le_of_ble_eq_true rfl) rfl)).trans ?_
  exact congrArg (fun z => if mj_in i 256 = true then some z else none) (kw_set (j := 1) (Nat.le_of_ble_eq_true rfl) (fun i h => by
    match i, h with
    | 0, _ => rfl
    | 1, _ => rfl
    | i + 2, h => exact absurd h (by omega)))
