def wF_Sc (o : Nat) (σ : kS) : List Value := [.ref (o + 1), .ref (o + 2), .int (σ.1 2)]
def wc_Sc (o : Nat) (σ : kS) : Nat → Option va_E := fun j => match j with
  | 0 => some (.inr (4, wF_Sc o σ))
  | 1 => some (.inl (0, 40, .inl (σ.2.2.1 0)))
  | 2 => some (.inl (2, 40, .inl (σ.2.2.1 1)))
  | _ => none
def wr_Sc (o : Nat) (M : mv_M) (σ : kS) : mv_M := kw_over o 2 (wc_Sc o σ) M
abbrev wq_Sc {α : Type} (o : Nat) (M : mv_M) : α × kS → α × mv_M := fun q => (q.1, wr_Sc o M q.2)
theorem wo_Sc {β : Type} (o : Nat) (M : mv_M) (σ : kS) (A : Option β) : mj_ob (wr_Sc o M σ) o 4 A = A := mj_ob_of (kw_at0 (by rfl))
theorem wg_Sc_0 (o : Nat) (M : mv_M) (σ : kS) : mj_getR (wr_Sc o M σ) o 4 0 = some (some (o + 1)) := mj_getR_of (x := some (o + 1)) (kw_at0 (by rfl)) rfl
theorem wg_Sc_1 (o : Nat) (M : mv_M) (σ : kS) : mj_getR (wr_Sc o M σ) o 4 1 = some (some (o + 2)) := mj_getR_of (x := some (o + 2)) (kw_at0 (by rfl)) rfl
theorem wg_Sc_2 (o : Nat) (M : mv_M) (σ : kS) : mj_getI (wr_Sc o M σ) o 4 2 = some (σ.1 2) := mj_getI_of (kw_at0 (by rfl)) rfl
theorem wp_Sc_2 (o : Nat) (M : mv_M) (σ : kS) (v : Int32) : mj_put (wr_Sc o M σ) o 4 2 (.int v) = some (wr_Sc o M (kI σ 2 v)) := by
  refine (mj_put_of (M := wr_Sc o M σ) (fs := wF_Sc o σ) (kw_at0 rfl) (Nat.le_of_ble_eq_true rfl)).trans ?_
  exact congrArg some (kw_set (j := 0) (Nat.zero_le _) (fun i h => by
    match i, h with
    | 0, _ => rfl
    | 1, _ => rfl
    | 2, _ => rfl
    | i + 3, h => exact absurd h (by omega)))
theorem wn_Sc_0 (o : Nat) (M : mv_M) (σ : kS) : mj_len (wr_Sc o M σ) (o + 1) 0 = some 40 := (mj_len_of (M := wr_Sc o M σ) (kw_at (Nat.le_of_ble_eq_true rfl) rfl)).trans rfl
theorem wl_Sc_0 (o : Nat) (M : mv_M) (σ : kS) (i : Int32) : mj_ild (wr_Sc o M σ) (o + 1) 0 i = mj_tab (σ.2.2.1 0) 40 i := kw_ild (M := wr_Sc o M σ) (kw_at (Nat.le_of_ble_eq_true rfl) rfl)
theorem wx_Sc_0 (o : Nat) (M : mv_M) (σ : kS) (i : Int32) (x : Int32) : mj_ist (wr_Sc o M σ) (o + 1) 0 i x = if mj_in i 40 = true then some (wr_Sc o M (kA σ 0 i.toNatClampNeg x)) else none := by
  refine (kw_ist (M := wr_Sc o M σ) (kw_at (Nat.le_of_ble_eq_true rfl) rfl)).trans ?_
  exact congrArg (fun z => if mj_in i 40 = true then some z else none) (kw_set (j := 1) (Nat.le_of_ble_eq_true rfl) (fun i h => by
    match i, h with
    | 0, _ => rfl
    | 1, _ => rfl
    | 2, _ => rfl
    | i + 3, h => exact absurd h (by omega)))
theorem wn_Sc_1 (o : Nat) (M : mv_M) (σ : kS) : mj_len (wr_Sc o M σ) (o + 2) 2 = some 40 := (mj_len_of (M := wr_Sc o M σ) (kw_at (Nat.le_of_ble_eq_true rfl) rfl)).trans rfl
theorem wl_Sc_1 (o : Nat) (M : mv_M) (σ : kS) (i : Int32) : mj_ild (wr_Sc o M σ) (o + 2) 2 i = mj_tab (σ.2.2.1 1) 40 i := kw_ild (M := wr_Sc o M σ) (kw_at (Nat.le_of_ble_eq_true rfl) rfl)
theorem wx_Sc_1 (o : Nat) (M : mv_M) (σ : kS) (i : Int32) (x : Int32) : mj_ist (wr_Sc o M σ) (o + 2) 2 i x = if mj_in i 40 = true then some (wr_Sc o M (kA σ 1 i.toNatClampNeg x)) else none := by
  refine (kw_ist (M := wr_Sc o M σ) (kw_at (Nat.le_of_ble_eq_true rfl) rfl)).trans ?_
  exact congrArg (fun z => if mj_in i 40 = true then some z else none) (kw_set (j := 2) (Nat.le_of_ble_eq_true rfl) (fun i h => by
    match i, h with
    | 0, _ => rfl
    | 1, _ => rfl
    | 2, _ => rfl
    | i + 3, h => exact absurd h (by omega)))
