/-! MEMORY LAYER, 3: what the memory answers (pure), and the rows of the instructions that ask it -/
def mj_set (M : mv_M) (a : Nat) (x : va_E) : mv_M := (M.1, M.2.1, va_up M.2.2 a (some x))
def mj_get (M : mv_M) (a ci f : Nat) : Option Value := match M.2.2 a with
  | some (.inr q) => if q.1 = ci then q.2[f]? else none
  | _ => none
def mj_getI (M : mv_M) (a ci f : Nat) : Option Int32 := match mj_get M a ci f with
  | some (.int x) => some x
  | _ => none
def mj_getL (M : mv_M) (a ci f : Nat) : Option Int64 := match mj_get M a ci f with
  | some (.long x) => some x
  | _ => none
def mj_getR (M : mv_M) (a ci f : Nat) : Option (Option Nat) := match mj_get M a ci f with
  | some (.ref x) => some (some x)
  | some .null => some none
  | _ => none
def mj_put (M : mv_M) (a ci f : Nat) (v : Value) : Option mv_M := match M.2.2 a with
  | some (.inr q) => if q.1 = ci ∧ f < q.2.length then some (mj_set M a (.inr (ci, q.2.set f v))) else none
  | _ => none
def mj_arr (M : mv_M) (a t : Nat) : Option vp_A := match M.2.2 a with
  | some (.inl q) => if q.1 = t then some q.2 else none
  | _ => none
def mj_in (i : Int32) (n : Nat) : Bool := decide (¬ (i < 0 ∨ n ≤ i.toNatClampNeg))
def mj_ild (M : mv_M) (a t : Nat) (i : Int32) : Option Int32 := match mj_arr M a t with
  | some (n, .inl f) => if mj_in i n = true then some (f i.toNatClampNeg) else none
  | _ => none
def mj_lld (M : mv_M) (a t : Nat) (i : Int32) : Option Int64 := match mj_arr M a t with
  | some (n, .inr (.inl f)) => if mj_in i n = true then some (f i.toNatClampNeg) else none
  | _ => none
def mj_rld (M : mv_M) (a t : Nat) (i : Int32) : Option (Option Nat) := match mj_arr M a t with
  | some (n, .inr (.inr (.inr (.inr f)))) => if mj_in i n = true then some (f i.toNatClampNeg) else none
  | _ => none
def mj_ist (M : mv_M) (a t : Nat) (i x : Int32) : Option mv_M := match mj_arr M a t with
  | some (n, .inl f) => if mj_in i n = true then some (mj_set M a (.inl (t, n, .inl (upd f i.toNatClampNeg x)))) else none
  | _ => none
def mj_lst (M : mv_M) (a t : Nat) (i : Int32) (x : Int64) : Option mv_M := match mj_arr M a t with
  | some (n, .inr (.inl f)) => if mj_in i n = true then some (mj_set M a (.inl (t, n, .inr (.inl (vp_updL f i.toNatClampNeg x))))) else none
  | _ => none
def mj_okR (M : mv_M) (ci : Nat) (x : Option Nat) : Bool := match x with
  | none => true
  | some v => match M.2.2 v with
    | some (.inr q) => decide (q.1 = ci)
    | _ => false
def mj_rst (M : mv_M) (a t ci : Nat) (i : Int32) (x : Option Nat) : Option mv_M := match mj_arr M a t with
  | some (n, .inr (.inr (.inr (.inr f)))) => if mj_in i n = true ∧ mj_okR M ci x = true then some (mj_set M a (.inl (t, n, .inr (.inr (.inr (.inr (va_up f i.toNatClampNeg x))))))) else none
  | _ => none
def mj_len (M : mv_M) (a t : Nat) : Option Int32 := match mj_arr M a t with
  | some x => some (Int32.ofNat x.1)
  | none => none
def mj_new (M : mv_M) (ci n : Nat) (fs : List Value) : mv_M := (M.1 + 1, M.2.1 + n, va_up M.2.2 M.1 (some (.inr (ci, fs))))
def mj_newa (M : mv_M) (t : Nat) (n : Int32) (x : vp_A) : mv_M := (M.1 + 1, M.2.1 + n.toNatClampNeg, va_up M.2.2 M.1 (some (.inl (t, x))))
def mj_call {α β : Type} (t : Option (α × mv_M)) (f : α → mv_M → Option β) : Option β := match t with
  | some q => f q.1 q.2
  | none => none
theorem mj_callE {α β : Type} {t : Option (α × mv_M)} {f : α → mv_M → Option β} {w : β} (h : mj_call t f = some w) : ∃ (r : α) (M2 : mv_M), t = some (r, M2) ∧ f r M2 = some w := by
  cases t with
  | none => cases h
  | some q => exact ⟨q.1, q.2, rfl, h⟩
def mj_opt {β : Type} (r : Option Nat) (A : Option β) (f : Nat → Option β) : Option β := match r with
  | some a => f a
  | none => A
theorem mj_bindE {α β : Type} {t : Option α} {f : α → Option β} {w : β} (h : t.bind f = some w) : ∃ x : α, t = some x ∧ f x = some w := Option.bind_eq_some_iff.mp h
theorem mj_get_at {M : mv_M} {a ci f : Nat} {v : Value} (h : mj_get M a ci f = some v) : ∃ fs : List Value, M.2.2 a = some (.inr (ci, fs)) ∧ fs[f]? = some v := by
  unfold mj_get at h
  split at h
  · rename_i q hq
    split at h
    · rename_i hc
      exact ⟨q.2, by rw [hq, ← hc], h⟩
    · cases h
  · cases h
theorem mj_getI_at {M : mv_M} {a ci f : Nat} {x : Int32} (h : mj_getI M a ci f = some x) : mj_get M a ci f = some (.int x) := by
  unfold mj_getI at h
  split at h
  · rename_i y hy; cases h; exact hy
  · cases h
theorem mj_getL_at {M : mv_M} {a ci f : Nat} {x : Int64} (h : mj_getL M a ci f = some x) : mj_get M a ci f = some (.long x) := by
  unfold mj_getL at h
  split at h
  · rename_i y hy; cases h; exact hy
  · cases h
theorem mj_getR_at {M : mv_M} {a ci f : Nat} {x : Option Nat} (h : mj_getR M a ci f = some x) : mj_get M a ci f = some (va_rf x) := by
  unfold mj_getR at h
  split at h
  · rename_i y hy; cases h; exact hy
  · rename_i hy; cases h; exact hy
  · cases h
theorem mj_put_at {M M2 : mv_M} {a ci f : Nat} {v : Value} (h : mj_put M a ci f v = some M2) : ∃ fs : List Value, M.2.2 a = some (.inr (ci, fs)) ∧ f < fs.length ∧ M2 = mj_set M a (.inr (ci, fs.set f v)) := by
  unfold mj_put at h
  split at h
  · rename_i q hq
    split at h
    · rename_i hc
      exact ⟨q.2, by rw [hq, ← hc.1], hc.2, (Option.some.inj h).symm⟩
    · cases h
  · cases h
theorem mj_arr_at {M : mv_M} {a t : Nat} {x : vp_A} (h : mj_arr M a t = some x) : M.2.2 a = some (.inl (t, x)) := by
  unfold mj_arr at h
  split at h
  · rename_i q hq
    split at h
    · rename_i hc
      rw [hq, ← Option.some.inj h, ← hc]
    · cases h
  · cases h
theorem mj_in_at {i : Int32} {n : Nat} (h : mj_in i n = true) : vp_in i n := of_decide_eq_true (p := ¬ (i < 0 ∨ n ≤ i.toNatClampNeg)) h
theorem mj_ild_at {M : mv_M} {a t : Nat} {i x : Int32} (h : mj_ild M a t i = some x) : ∃ (n : Nat) (f : Nat → Int32), M.2.2 a = some (.inl (t, n, .inl f)) ∧ vp_in i n ∧ x = f i.toNatClampNeg := by
  unfold mj_ild at h
  split at h
  · rename_i n f hq
    split at h
    · rename_i hc
      exact ⟨n, f, mj_arr_at hq, mj_in_at hc, (Option.some.inj h).symm⟩
    · cases h
  · cases h
theorem mj_lld_at {M : mv_M} {a t : Nat} {i : Int32} {x : Int64} (h : mj_lld M a t i = some x) : ∃ (n : Nat) (f : Nat → Int64), M.2.2 a = some (.inl (t, n, .inr (.inl f))) ∧ vp_in i n ∧ x = f i.toNatClampNeg := by
  unfold mj_lld at h
  split at h
  · rename_i n f hq
    split at h
    · rename_i hc
      exact ⟨n, f, mj_arr_at hq, mj_in_at hc, (Option.some.inj h).symm⟩
    · cases h
  · cases h
theorem mj_rld_at {M : mv_M} {a t : Nat} {i : Int32} {x : Option Nat} (h : mj_rld M a t i = some x) : ∃ (n : Nat) (f : Nat → Option Nat), M.2.2 a = some (.inl (t, n, .inr (.inr (.inr (.inr f))))) ∧ vp_in i n ∧ x = f i.toNatClampNeg := by
  unfold mj_rld at h
  split at h
  · rename_i n f hq
    split at h
    · rename_i hc
      exact ⟨n, f, mj_arr_at hq, mj_in_at hc, (Option.some.inj h).symm⟩
    · cases h
  · cases h
theorem mj_ist_at {M M2 : mv_M} {a t : Nat} {i x : Int32} (h : mj_ist M a t i x = some M2) : ∃ (n : Nat) (f : Nat → Int32), M.2.2 a = some (.inl (t, n, .inl f)) ∧ vp_in i n ∧ M2 = mj_set M a (.inl (t, n, .inl (upd f i.toNatClampNeg x))) := by
  unfold mj_ist at h
  split at h
  · rename_i n f hq
    split at h
    · rename_i hc
      exact ⟨n, f, mj_arr_at hq, mj_in_at hc, (Option.some.inj h).symm⟩
    · cases h
  · cases h
theorem mj_lst_at {M M2 : mv_M} {a t : Nat} {i : Int32} {x : Int64} (h : mj_lst M a t i x = some M2) : ∃ (n : Nat) (f : Nat → Int64), M.2.2 a = some (.inl (t, n, .inr (.inl f))) ∧ vp_in i n ∧ M2 = mj_set M a (.inl (t, n, .inr (.inl (vp_updL f i.toNatClampNeg x)))) := by
  unfold mj_lst at h
  split at h
  · rename_i n f hq
    split at h
    · rename_i hc
      exact ⟨n, f, mj_arr_at hq, mj_in_at hc, (Option.some.inj h).symm⟩
    · cases h
  · cases h
theorem mj_rst_at {M M2 : mv_M} {a t ci : Nat} {i : Int32} {x : Option Nat} (h : mj_rst M a t ci i x = some M2) : ∃ (n : Nat) (f : Nat → Option Nat), M.2.2 a = some (.inl (t, n, .inr (.inr (.inr (.inr f))))) ∧ vp_in i n ∧ (∀ v, x = some v → ∃ fs : List Value, M.2.2 v = some (.inr (ci, fs))) ∧ M2 = mj_set M a (.inl (t, n, .inr (.inr (.inr (.inr (va_up f i.toNatClampNeg x)))))) := by
  unfold mj_rst at h
  split at h
  · rename_i n f hq
    split at h
    · rename_i hc
      refine ⟨n, f, mj_arr_at hq, mj_in_at hc.1, fun v hv => ?_, (Option.some.inj h).symm⟩
      have h2 := hc.2
      rw [hv] at h2
      unfold mj_okR at h2
      dsimp only at h2
      split at h2
      · rename_i q hq2
        exact ⟨q.2, by rw [hq2, ← of_decide_eq_true h2]⟩
      · cases h2
    · cases h
  · cases h
theorem mj_len_at {M : mv_M} {a t : Nat} {v : Int32} (h : mj_len M a t = some v) : ∃ x : vp_A, M.2.2 a = some (.inl (t, x)) ∧ Int32.ofNat x.1 = v := by
  unfold mj_len at h
  split at h
  · rename_i x hx
    exact ⟨x, mj_arr_at hx, Option.some.inj h⟩
  · cases h
/-- a class of the world: its number, name, fields -/
def mv_cls (X : mv_X) (ci : Nat) (C : String) (T : u_T) (N : Nat) (ty : Nat → FieldType) : Prop := (mx_cl X)[ci]? = some (C, T, N) ∧ (∀ w ∈ u_ws C T N, w ∈ mx_Ts X) ∧ (∀ j, j < N → parseFieldDescriptor (T j).2.2.1 = some (ty j)) ∧ ∀ a, a < N → ∀ b, b < N → a ≠ b → (T a).2.1 ≠ (T b).2.1
theorem mv_ok.set {X : mv_X} {M : mv_M} {H H1 : Heap} {a : Nat} {x : va_E} (h : mv_ok X M H) (ha : mx_B X ≤ a) (hz : H1.size = H.size) (ho : ∀ q : Nat, q ≠ a → H1[q]? = H[q]?) (hx : va_at (mx_D X) (mx_cl X) (a, mv_tr (mx_E X) x) H1) : mv_ok X (mj_set M a x) H1 := by
  refine ⟨hz.trans h.1, fun b y hb => ?_⟩
  by_cases e : b = a
  · subst e
    have : some x = some y := by rw [← hb]; exact (va_up_self _ _ _).symm
    cases this
    exact ⟨ha, hx⟩
  · have hb' : M.2.2 b = some y := by rw [← hb]; exact (va_up_ne _ _ e).symm
    exact ⟨(h.2 b y hb').1, (h.2 b y hb').2.kept (ho b e)⟩
theorem mv_ok.push {X : mv_X} {M : mv_M} {H H1 : Heap} {n : Nat} {x : va_E} (h : mv_ok X M H) (hB : mx_B X ≤ H.size) (hz : H1.size = H.size + 1) (ho : ∀ q : Nat, q < H.size → H1[q]? = H[q]?) (hx : va_at (mx_D X) (mx_cl X) (H.size, mv_tr (mx_E X) x) H1) : mv_ok X (M.1 + 1, M.2.1 + n, va_up M.2.2 M.1 (some x)) H1 := by
  refine ⟨by rw [hz, h.1], fun b y hb => ?_⟩
  by_cases e : b = M.1
  · subst e
    have : some x = some y := by rw [← hb]; exact (va_up_self _ _ _).symm
    cases this
    rw [← h.1]
    exact ⟨hB, hx⟩
  · have hb' : M.2.2 b = some y := by rw [← hb]; exact (va_up_ne _ _ e).symm
    exact ⟨(h.2 b y hb').1, (h.2 b y hb').2.kept (ho b (h.2 b y hb').2.lt)⟩
theorem mv_Sput {X : mv_X} {H0 H H1 : Heap} {locs : List Loc} {a j : Nat} (h : va_S (mv_A X) H0 H locs) (z : H1.size = H.size) (oq : ∀ q : Nat, q ≠ a → H1[q]? = H[q]?) (ha : mx_B X ≤ a) : va_S (mv_A X) H0 H1 (locs ++ [⟨a, j⟩]) := h.put z oq ha
theorem mv_Spush {X : mv_X} {H0 H H1 : Heap} {locs : List Loc} (h : va_S (mv_A X) H0 H locs) (z : H1.size = H.size + 1) (oq : ∀ q : Nat, q < H.size → H1[q]? = H[q]?) : va_S (mv_A X) H0 H1 locs :=
  ⟨Nat.le_trans h.1 (by omega), fun q h1 h2 => (oq q (Nat.lt_of_lt_of_le h1 h.1)).trans (h.2.1 q h1 h2), h.2.2⟩
section MVM
variable {X : mv_X} {k : mv_Kd} {M0 M : mv_M} {b1 b2 : Nat} {QQ : List Frame → Array Value → State → State → Prop} {pc : Nat} {lv : List (Nat × Value)} {rest : List Value}
theorem mv_getv {ci N f a index : Nat} {C : String} {T : u_T} {ty : Nat → FieldType} {v : Value} (Kc : mv_cls X ci C T N ty) (hf : f < N) (hw : Cond.fieldLink (mk_own k) index (T f).1 (T f).2.1 (T f).2.2.1 ∈ mx_Ts X) (hdg : decode (mk_cc k) pc = .ok (.getfield index, 3)) (hv : mj_get M a ci f = some v)
    (kk : mv_H X k M0 b1 b2 QQ M (pc + 3) lv (v :: rest)) : mv_H X k M0 b1 b2 QQ M pc lv (va_rf (some a) :: rest) := by
  obtain ⟨fs, ha, hfs⟩ := mj_get_at hv
  refine ⟨kk.1, fun p e s m args below meth c H locs ls C' hok hS h1 h2 hl => ?_⟩
  have hP : va_P (mx_D X) (mx_cl X) [(a, .inr (ci, fs))] H := fun j q hj => by
    match j, hj with
    | 0, hj => cases hj; exact (hok.2 a _ ha).2
    | j + 1, hj => simp at hj
  exact va_get (D := mx_D X) (tys := []) C'.1.1 C'.1.2.1 C'.1.2.2.2.2 Kc.2.1 C'.1.2.2.2.1 C'.2.1.1.1 hP 0 rfl Kc.1 f hf (C'.1.2.2.2.2 _ hw) (fun _ h => h) hfs hdg (kk.2 p e s m args below meth c H locs ls C' hok hS h1 h2 hl)
theorem mv_getI {β : Type} {ci N f a index : Nat} {C : String} {T : u_T} {ty : Nat → FieldType} {g : Int32 → Option β} {w : β} (Kc : mv_cls X ci C T N ty) (hf : f < N) (hw : Cond.fieldLink (mk_own k) index (T f).1 (T f).2.1 (T f).2.2.1 ∈ mx_Ts X) (hdg : decode (mk_cc k) pc = .ok (.getfield index, 3)) (hJ : (mj_getI M a ci f).bind g = some w)
    (kk : ∀ x : Int32, mj_getI M a ci f = some x → g x = some w → mv_H X k M0 b1 b2 QQ M (pc + 3) lv (.int x :: rest)) : mv_H X k M0 b1 b2 QQ M pc lv (va_rf (some a) :: rest) := by
  obtain ⟨x, hx, hg⟩ := mj_bindE hJ
  exact mv_getv Kc hf hw hdg (mj_getI_at hx) (kk x hx hg)
theorem mv_getL {β : Type} {ci N f a index : Nat} {C : String} {T : u_T} {ty : Nat → FieldType} {g : Int64 → Option β} {w : β} (Kc : mv_cls X ci C T N ty) (hf : f < N) (hw : Cond.fieldLink (mk_own k) index (T f).1 (T f).2.1 (T f).2.2.1 ∈ mx_Ts X) (hdg : decode (mk_cc k) pc = .ok (.getfield index, 3)) (hJ : (mj_getL M a ci f).bind g = some w)
    (kk : ∀ x : Int64, mj_getL M a ci f = some x → g x = some w → mv_H X k M0 b1 b2 QQ M (pc + 3) lv (.long x :: rest)) : mv_H X k M0 b1 b2 QQ M pc lv (va_rf (some a) :: rest) := by
  obtain ⟨x, hx, hg⟩ := mj_bindE hJ
  exact mv_getv Kc hf hw hdg (mj_getL_at hx) (kk x hx hg)
theorem mv_getR {β : Type} {ci N f a index : Nat} {C : String} {T : u_T} {ty : Nat → FieldType} {g : Option Nat → Option β} {w : β} (Kc : mv_cls X ci C T N ty) (hf : f < N) (hw : Cond.fieldLink (mk_own k) index (T f).1 (T f).2.1 (T f).2.2.1 ∈ mx_Ts X) (hdg : decode (mk_cc k) pc = .ok (.getfield index, 3)) (hJ : (mj_getR M a ci f).bind g = some w)
    (kk : ∀ x : Option Nat, mj_getR M a ci f = some x → g x = some w → mv_H X k M0 b1 b2 QQ M (pc + 3) lv (va_rf x :: rest)) : mv_H X k M0 b1 b2 QQ M pc lv (va_rf (some a) :: rest) := by
  obtain ⟨x, hx, hg⟩ := mj_bindE hJ
  exact mv_getv Kc hf hw hdg (mj_getR_at hx) (kk x hx hg)
theorem mv_put {β : Type} {ci N f a index : Nat} {C : String} {T : u_T} {ty : Nat → FieldType} {v : Value} {g : mv_M → Option β} {w : β} (Kc : mv_cls X ci C T N ty) (hf : f < N) (hw : Cond.fieldLink (mk_own k) index (T f).1 (T f).2.1 (T f).2.2.1 ∈ mx_Ts X) (hfin : (T f).2.2.2 = false) (hn : narrow (ty f) v = v) (hfit : fits (ty f) v = true) (hdg : decode (mk_cc k) pc = .ok (.putfield index, 3)) (hJ : (mj_put M a ci f v).bind g = some w)
    (kk : ∀ M2 : mv_M, mj_put M a ci f v = some M2 → g M2 = some w → mv_H X k M0 b1 b2 QQ M2 (pc + 3) lv rest) : mv_H X k M0 b1 b2 QQ M pc lv (v :: va_rf (some a) :: rest) := by
  obtain ⟨M2, hx, hg⟩ := mj_bindE hJ
  have kk := kk M2 hx hg
  obtain ⟨fs, ha, hl0, hM2⟩ := mj_put_at hx
  subst hM2
  refine ⟨kk.1, fun p e s m args below meth c H locs ls C' hok hS h1 h2 hl => ?_⟩
  obtain ⟨hBa, r, hr1, cell, q1, q2, q3, q4⟩ := hok.2 a _ ha
  have hr : r = (C, T, N) := Option.some.inj (hr1.symm.trans Kc.1)
  subst hr
  have hts := C'.1.2.2.2.2
  have hap := va_apart (own := mk_own k) hts Kc.2.1 ty Kc.2.2.1 Kc.2.2.2 C'.2.1.1.1 Kc.1
  obtain ⟨hSl, hfc, kC, hkC, hkind⟩ := C'.2.1.1.1.1 ci _ Kc.1
  obtain ⟨cf, kf, fi, fd, hi, hsl⟩ := hSl f hf
  have hlay := hts _ (Kc.2.1 _ (u_in_lay hf))
  unfold u_lay at hlay
  rw [if_neg (by rw [hfin]; decide)] at hlay
  have hst := (u_facts hfc hkC (u_lays hts Kc.2.1 hf) hi).1
  have h6 := u_store hfc hkC hkind hlay hi (Kc.2.2.1 f hf) hn hfit
  refine W.putK C'.1.1 C'.1.2.1 (f := fd) ⟨C'.1.2.2.2.1, hts _ hw, ⟨_, _, _, hi⟩, hst⟩ (by rw [q2]; exact h6) q1 q3 (by rw [hsl]; exact k2_hasslot (q4 f hf)) rfl rfl hdg fun H' e1 e2 e3 => ?_
  rw [hsl] at e1 ⊢
  exact kk.2 p e s m args below meth c H' _ ls C' (hok.set hBa e2 e3 ⟨_, Kc.1, t_OB.to (V := updV (vp_V fs) f v) ⟨_, e1, q2, q3, t_set q4 hap hf v⟩ (fun j _ => vp_updV_set hl0 v j)⟩) (mv_Sput hS e2 e3 hBa) h1 h2 hl
theorem mv_putF {β : Type} {ci N f a index : Nat} {C : String} {T : u_T} {ty : Nat → FieldType} {v : Value} {g : mv_M → Option β} {w : β} (Kc : mv_cls X ci C T N ty) (hf : f < N) (hw : Cond.fieldLink (mk_own k) index (T f).1 (T f).2.1 (T f).2.2.1 ∈ mx_Ts X) (hfin : (T f).2.2.2 = true) (hinit : mk_nm k = "<init>") (hdecl : (T f).1 = mk_own k) (hn : narrow (ty f) v = v) (hfit : fits (ty f) v = true) (hdg : decode (mk_cc k) pc = .ok (.putfield index, 3)) (hJ : (mj_put M a ci f v).bind g = some w)
    (kk : ∀ M2 : mv_M, mj_put M a ci f v = some M2 → g M2 = some w → mv_H X k M0 b1 b2 QQ M2 (pc + 3) lv rest) : mv_H X k M0 b1 b2 QQ M pc lv (v :: va_rf (some a) :: rest) := by
  obtain ⟨M2, hx, hg⟩ := mj_bindE hJ
  have kk := kk M2 hx hg
  obtain ⟨fs, ha, hl0, hM2⟩ := mj_put_at hx
  subst hM2
  refine ⟨kk.1, fun p e s m args below meth c H locs ls C' hok hS h1 h2 hl => ?_⟩
  obtain ⟨hBa, r, hr1, cell, q1, q2, q3, q4⟩ := hok.2 a _ ha
  have hr : r = (C, T, N) := Option.some.inj (hr1.symm.trans Kc.1)
  subst hr
  have hts := C'.1.2.2.2.2
  have hap := va_apart (own := mk_own k) hts Kc.2.1 ty Kc.2.2.1 Kc.2.2.2 C'.2.1.1.1 Kc.1
  obtain ⟨hSl, hfc, kC, hkC, hkind⟩ := C'.2.1.1.1.1 ci _ Kc.1
  obtain ⟨cf, kf, fi, fd, hi, hsl⟩ := hSl f hf
  have hlay := hts _ (Kc.2.1 _ (u_in_lay hf))
  unfold u_lay at hlay
  rw [if_pos hfin] at hlay
  have hst := (u_facts hfc hkC (u_lays hts Kc.2.1 hf) hi).1
  have hcf : m.cls = cf := by
    obtain ⟨_, _, c', _, _, _, -, -, hf', -, -, -, hown2, -⟩ := Cond.laysFinal_spec hlay
    have e1 : c' = cf := by have := hi.symm.trans hf'; simp at this; exact this.1.symm
    rw [hdecl] at hown2
    rw [← e1]; exact Option.some.inj (C'.1.2.2.2.1.symm.trans hown2)
  have h6 := u_fits hfc hkC hkind (Or.inr hlay) hi (Kc.2.2.1 f hf) hn hfit
  refine W.putFinK C'.1.1 C'.1.2.1 C'.1.2.2.2.1 (hts _ hw) hi hst hcf (C'.2.2.2.2 hinit) (by rw [q2]; exact h6) q1 q3 (by rw [hsl]; exact k2_hasslot (q4 f hf)) rfl rfl hdg fun H' e1 e2 e3 => ?_
  rw [hsl] at e1 ⊢
  exact kk.2 p e s m args below meth c H' _ ls C' (hok.set hBa e2 e3 ⟨_, Kc.1, t_OB.to (V := updV (vp_V fs) f v) ⟨_, e1, q2, q3, t_set q4 hap hf v⟩ (fun j _ => vp_updV_set hl0 v j)⟩) (mv_Sput hS e2 e3 hBa) h1 h2 hl
theorem mv_iald {β : Type} {a t : Nat} {i : Int32} {g : Int32 → Option β} {w : β} (ht : (mx_ty X)[t]? = some .int) (hdg : decode (mk_cc k) pc = .ok (.iaload, 1)) (hJ : (mj_ild M a t i).bind g = some w)
    (kk : ∀ x : Int32, mj_ild M a t i = some x → g x = some w → mv_H X k M0 b1 b2 QQ M (pc + 1) lv (.int x :: rest)) : mv_H X k M0 b1 b2 QQ M pc lv (.int i :: va_rf (some a) :: rest) := by
  obtain ⟨x, hx, hg⟩ := mj_bindE hJ
  have kk := kk x hx hg
  obtain ⟨n, f, ha, hin, rfl⟩ := mj_ild_at hx
  refine ⟨kk.1, fun p e s m args below meth c H locs ls C' hok hS h1 h2 hl => ?_⟩
  have hlt : i.toNatClampNeg < n := Nat.not_le.mp fun q => hin (Or.inr q)
  exact W.iald (v := .int (f i.toNatClampNeg)) C'.1.1 C'.1.2.1 (hok.2 a _ ha).2 ((C'.2.1.1.2 t _ ht).1 n (fun j => .int (f j))) (fun q => by cases q) (by show ¬ (i < 0 ∨ (arrV _ _ _).slots.size ≤ _); rw [arrV_size]; exact hin) (by show (arrV _ _ _).slots[_]? = _; rw [arrV_read _ _ hlt]) rfl rfl hdg (kk.2 p e s m args below meth c H locs ls C' hok hS h1 h2 hl)
theorem mv_zald {β : Type} {a t : Nat} {i : Int32} {g : Int32 → Option β} {w : β} (ht : (mx_ty X)[t]? = some .boolean) (hdg : decode (mk_cc k) pc = .ok (.baload, 1)) (hJ : (mj_ild M a t i).bind g = some w)
    (kk : ∀ x : Int32, mj_ild M a t i = some x → g x = some w → mv_H X k M0 b1 b2 QQ M (pc + 1) lv (.int x :: rest)) : mv_H X k M0 b1 b2 QQ M pc lv (.int i :: va_rf (some a) :: rest) := by
  obtain ⟨x, hx, hg⟩ := mj_bindE hJ
  have kk := kk x hx hg
  obtain ⟨n, f, ha, hin, rfl⟩ := mj_ild_at hx
  refine ⟨kk.1, fun p e s m args below meth c H locs ls C' hok hS h1 h2 hl => ?_⟩
  have hlt : i.toNatClampNeg < n := Nat.not_le.mp fun q => hin (Or.inr q)
  exact W.zald (v := .int (f i.toNatClampNeg)) C'.1.1 C'.1.2.1 (hok.2 a _ ha).2 ((C'.2.1.1.2 t _ ht).1 n (fun j => .int (f j))) (fun q => by cases q) (by show ¬ (i < 0 ∨ (arrV _ _ _).slots.size ≤ _); rw [arrV_size]; exact hin) (by show (arrV _ _ _).slots[_]? = _; rw [arrV_read _ _ hlt]) rfl rfl hdg (kk.2 p e s m args below meth c H locs ls C' hok hS h1 h2 hl)
theorem mv_lald {β : Type} {a t : Nat} {i : Int32} {g : Int64 → Option β} {w : β} (ht : (mx_ty X)[t]? = some .long) (hdg : decode (mk_cc k) pc = .ok (.laload, 1)) (hJ : (mj_lld M a t i).bind g = some w)
    (kk : ∀ x : Int64, mj_lld M a t i = some x → g x = some w → mv_H X k M0 b1 b2 QQ M (pc + 1) lv (.long x :: rest)) : mv_H X k M0 b1 b2 QQ M pc lv (.int i :: va_rf (some a) :: rest) := by
  obtain ⟨x, hx, hg⟩ := mj_bindE hJ
  have kk := kk x hx hg
  obtain ⟨n, f, ha, hin, rfl⟩ := mj_lld_at hx
  refine ⟨kk.1, fun p e s m args below meth c H locs ls C' hok hS h1 h2 hl => ?_⟩
  have hlt : i.toNatClampNeg < n := Nat.not_le.mp fun q => hin (Or.inr q)
  exact W.lald (v := .long (f i.toNatClampNeg)) C'.1.1 C'.1.2.1 (hok.2 a _ ha).2 ((C'.2.1.1.2 t _ ht).1 n (fun j => .long (f j))) (fun q => by cases q) (by show ¬ (i < 0 ∨ (arrV _ _ _).slots.size ≤ _); rw [arrV_size]; exact hin) (by show (arrV _ _ _).slots[_]? = _; rw [arrV_read _ _ hlt]) rfl rfl hdg (kk.2 p e s m args below meth c H locs ls C' hok hS h1 h2 hl)
theorem mv_aald {β : Type} {a t : Nat} {i : Int32} {C : String} {g : Option Nat → Option β} {w : β} (ht : (mx_ty X)[t]? = some (.object C)) (hdg : decode (mk_cc k) pc = .ok (.aaload, 1)) (hJ : (mj_rld M a t i).bind g = some w)
    (kk : ∀ x : Option Nat, mj_rld M a t i = some x → g x = some w → mv_H X k M0 b1 b2 QQ M (pc + 1) lv (va_rf x :: rest)) : mv_H X k M0 b1 b2 QQ M pc lv (.int i :: va_rf (some a) :: rest) := by
  obtain ⟨x, hx, hg⟩ := mj_bindE hJ
  have kk := kk x hx hg
  obtain ⟨n, f, ha, hin, rfl⟩ := mj_rld_at hx
  refine ⟨kk.1, fun p e s m args below meth c H locs ls C' hok hS h1 h2 hl => ?_⟩
  have hlt : i.toNatClampNeg < n := Nat.not_le.mp fun q => hin (Or.inr q)
  exact W.aald (v := va_rf (f i.toNatClampNeg)) (ty := .object C) C'.1.1 C'.1.2.1 (hok.2 a _ ha).2 ((C'.2.1.1.2 t _ ht).1 n (fun j => va_rf (f j))) rfl (fun q => by cases q) (by show ¬ (i < 0 ∨ (arrV _ _ _).slots.size ≤ _); rw [arrV_size]; exact hin) (by show (arrV _ _ _).slots[_]? = _; rw [arrV_read _ _ hlt]) rfl rfl hdg (kk.2 p e s m args below meth c H locs ls C' hok hS h1 h2 hl)
theorem mv_alen {β : Type} {a t : Nat} {ty : FieldType} {g : Int32 → Option β} {w : β} (ht : (mx_ty X)[t]? = some ty) (hdg : decode (mk_cc k) pc = .ok (.arraylength, 1)) (hJ : (mj_len M a t).bind g = some w)
    (kk : ∀ x : Int32, mj_len M a t = some x → g x = some w → mv_H X k M0 b1 b2 QQ M (pc + 1) lv (.int x :: rest)) : mv_H X k M0 b1 b2 QQ M pc lv (va_rf (some a) :: rest) := by
  obtain ⟨v, hx, hg⟩ := mj_bindE hJ
  have kk := kk v hx hg
  obtain ⟨x, ha, hv⟩ := mj_len_at hx
  refine ⟨kk.1, fun p e s m args below meth c H locs ls C' hok hS h1 h2 hl => ?_⟩
  have hP : va_P (mx_D X) (mx_cl X) [(a, .inl (mx_E X t, x))] H := fun j q hj => by
    match j, hj with
    | 0, hj => cases hj; exact (hok.2 a _ ha).2
    | j + 1, hj => simp at hj
  exact va_alen (D := mx_D X) (cl := mx_cl X) (tys := [(mx_E X t, ty)]) C'.1.1 C'.1.2.1 ⟨C'.2.1.1.1.1, fun j q hj => by
    match j, hj with
    | 0, hj => cases hj; exact ⟨(C'.2.1.1.2 t _ ht).1, (C'.2.1.1.2 t _ ht).2.1⟩
    | j + 1, hj => simp at hj⟩ hP 0 0 rfl rfl hv hdg (kk.2 p e s m args below meth c H locs ls C' hok hS h1 h2 hl)
theorem mv_iast {β : Type} {a t : Nat} {i x : Int32} {g : mv_M → Option β} {w : β} (ht : (mx_ty X)[t]? = some .int) (hdg : decode (mk_cc k) pc = .ok (.iastore, 1)) (hJ : (mj_ist M a t i x).bind g = some w)
    (kk : ∀ M2 : mv_M, mj_ist M a t i x = some M2 → g M2 = some w → mv_H X k M0 b1 b2 QQ M2 (pc + 1) lv rest) : mv_H X k M0 b1 b2 QQ M pc lv (.int x :: .int i :: va_rf (some a) :: rest) := by
  obtain ⟨M2, hx, hg⟩ := mj_bindE hJ
  have kk := kk M2 hx hg
  obtain ⟨n, f, ha, hin, rfl⟩ := mj_ist_at hx
  refine ⟨kk.1, fun p e s m args below meth c H locs ls C' hok hS h1 h2 hl => ?_⟩
  obtain ⟨hBa, hat⟩ := hok.2 a _ ha
  refine W.iast C'.1.1 C'.1.2.1 hat ((C'.2.1.1.2 t _ ht).1 n (fun j => .int (f j))) (fun q => by cases q) (by show ¬ (i < 0 ∨ (arrV _ _ _).slots.size ≤ _); rw [arrV_size]; exact hin) rfl rfl hdg fun H1 e1 z oq => ?_
  refine kk.2 p e s m args below meth c H1 _ ls C' (hok.set hBa z oq ?_) (mv_Sput hS z oq hBa) h1 h2 hl
  show H1[a]? = some (vp_cell _ _)
  rw [e1]
  show some ((vp_cell _ _).setSlot _ _) = _
  rw [vp_cell_i, vp_cell_i, arrV_store]
  congr 2
  funext q
  by_cases hq : q = i.toNatClampNeg
  · subst hq; simp [updV, upd]
  · simp [updV, upd, hq]
theorem mv_zast {β : Type} {a t : Nat} {i x : Int32} {g : mv_M → Option β} {w : β} (ht : (mx_ty X)[t]? = some .boolean) (hdg : decode (mk_cc k) pc = .ok (.bastore, 1)) (hJ : (mj_ist M a t i (vp_nar .boolean x)).bind g = some w)
    (kk : ∀ M2 : mv_M, mj_ist M a t i (vp_nar .boolean x) = some M2 → g M2 = some w → mv_H X k M0 b1 b2 QQ M2 (pc + 1) lv rest) : mv_H X k M0 b1 b2 QQ M pc lv (.int x :: .int i :: va_rf (some a) :: rest) := by
  obtain ⟨M2, hx, hg⟩ := mj_bindE hJ
  have kk := kk M2 hx hg
  obtain ⟨n, f, ha, hin, rfl⟩ := mj_ist_at hx
  refine ⟨kk.1, fun p e s m args below meth c H locs ls C' hok hS h1 h2 hl => ?_⟩
  obtain ⟨hBa, hat⟩ := hok.2 a _ ha
  refine W.zast C'.1.1 C'.1.2.1 hat ((C'.2.1.1.2 t _ ht).1 n (fun j => .int (f j))) (fun q => by cases q) (by show ¬ (i < 0 ∨ (arrV _ _ _).slots.size ≤ _); rw [arrV_size]; exact hin) rfl rfl hdg fun H1 e1 z oq => ?_
  refine kk.2 p e s m args below meth c H1 _ ls C' (hok.set hBa z oq ?_) (mv_Sput hS z oq hBa) h1 h2 hl
  show H1[a]? = some (vp_cell _ _)
  rw [e1]
  show some ((vp_cell _ _).setSlot _ _) = _
  rw [vp_cell_i, vp_cell_i, arrV_store]
  congr 2
  funext q
  by_cases hq : q = i.toNatClampNeg
  · subst hq; simp [updV, upd]; rfl
  · simp [updV, upd, hq]
theorem mv_last {β : Type} {a t : Nat} {i : Int32} {x : Int64} {g : mv_M → Option β} {w : β} (ht : (mx_ty X)[t]? = some .long) (hdg : decode (mk_cc k) pc = .ok (.lastore, 1)) (hJ : (mj_lst M a t i x).bind g = some w)
    (kk : ∀ M2 : mv_M, mj_lst M a t i x = some M2 → g M2 = some w → mv_H X k M0 b1 b2 QQ M2 (pc + 1) lv rest) : mv_H X k M0 b1 b2 QQ M pc lv (.long x :: .int i :: va_rf (some a) :: rest) := by
  obtain ⟨M2, hx, hg⟩ := mj_bindE hJ
  have kk := kk M2 hx hg
  obtain ⟨n, f, ha, hin, rfl⟩ := mj_lst_at hx
  refine ⟨kk.1, fun p e s m args below meth c H locs ls C' hok hS h1 h2 hl => ?_⟩
  obtain ⟨hBa, hat⟩ := hok.2 a _ ha
  refine W.last C'.1.1 C'.1.2.1 hat ((C'.2.1.1.2 t _ ht).1 n (fun j => .long (f j))) (fun q => by cases q) (by show ¬ (i < 0 ∨ (arrV _ _ _).slots.size ≤ _); rw [arrV_size]; exact hin) rfl rfl hdg fun H1 e1 z oq => ?_
  refine kk.2 p e s m args below meth c H1 _ ls C' (hok.set hBa z oq ?_) (mv_Sput hS z oq hBa) h1 h2 hl
  show H1[a]? = some (vp_cell _ _)
  rw [e1]
  show some ((vp_cell _ _).setSlot _ _) = _
  rw [vp_cell_l, vp_cell_l, arrV_store]
  congr 2
  funext q
  by_cases hq : q = i.toNatClampNeg
  · subst hq; simp [updV, vp_updL]
  · simp [updV, vp_updL, hq]
end MVM
/-! MEMORY LAYER, 4: references into arrays, making, null, calls, ends -/
section MVN
variable {X : mv_X} {k : mv_Kd} {M0 M : mv_M} {b1 b2 : Nat} {QQ : List Frame → Array Value → State → State → Prop} {pc : Nat} {lv : List (Nat × Value)} {rest : List Value}
theorem mv_aast {β : Type} {a t ci : Nat} {i : Int32} {r : vw_C} {x : Option Nat} {g : mv_M → Option β} {w : β} (ht : (mx_ty X)[t]? = some (.object r.1)) (hc : (mx_cl X)[ci]? = some r) (hdg : decode (mk_cc k) pc = .ok (.aastore, 1)) (hJ : (mj_rst M a t ci i x).bind g = some w)
    (kk : ∀ M2 : mv_M, mj_rst M a t ci i x = some M2 → g M2 = some w → mv_H X k M0 b1 b2 QQ M2 (pc + 1) lv rest) : mv_H X k M0 b1 b2 QQ M pc lv (va_rf x :: .int i :: va_rf (some a) :: rest) := by
  obtain ⟨M2, hx, hg⟩ := mj_bindE hJ
  have kk := kk M2 hx hg
  obtain ⟨n, f, ha, hin, hv, rfl⟩ := mj_rst_at hx
  refine ⟨kk.1, fun p e s m args below meth c H locs ls C' hok hS h1 h2 hl => ?_⟩
  obtain ⟨hBa, hat⟩ := hok.2 a _ ha
  have hlt : i.toNatClampNeg < n := Nat.not_le.mp fun q => hin (Or.inr q)
  have h0 : ¬ i < 0 := fun q => hin (Or.inl q)
  have fin : ∀ (H1 : Heap) (j : Nat), H1[a]? = some ((vp_cell (mx_E X t) (n, .inr (.inr (.inr (.inr f))))).setSlot i.toNatClampNeg (va_rf x)) → H1.size = H.size → (∀ q, q ≠ a → H1[q]? = H[q]?) → W p (mx_l X) e (mv_R k M0 b1 b2) s m args below meth c H1 (locs ++ [⟨a, j⟩]) (M.1 - M0.1) (M.2.1 - M0.2.1) (QQ below args s) (F0 m (pc + 1) ls rest) := by
    intro H1 j e1 z oq
    refine kk.2 p e s m args below meth c H1 _ ls C' (hok.set hBa z oq ?_) (mv_Sput hS z oq hBa) h1 h2 hl
    show H1[a]? = some (vp_cell _ _)
    rw [e1]
    rw [vp_cell_q, vp_cell_q, arrV_store]
    congr 2
    funext q
    by_cases hq : q = i.toNatClampNeg
    · subst hq; simp [updV, va_up]
    · simp [updV, va_up, hq]
  cases x with
  | none => exact va_WaastN (C := r.1) C'.1.1 C'.1.2.1 hat ((C'.2.1.1.2 t _ ht).1 n (fun j => va_rf (f j))) (fun h => by cases h) (by show ¬ (i < 0 ∨ (arrV _ _ _).slots.size ≤ _); rw [arrV_size]; exact hin) rfl rfl hdg fun H1 e1 z oq => fin H1 _ e1 z oq
  | some v =>
    obtain ⟨fs, hvM⟩ := hv v rfl
    obtain ⟨-, r', hr', cellV, g1, g2, g3, -⟩ := hok.2 v _ hvM
    have hcls := (C'.2.1.1.1.1 ci r hc).2
    obtain ⟨kA, comp, k1, k2, k3, -⟩ := (C'.2.1.1.2 t _ ht).2.1
    have hcomp : comp = (mx_D X).1 ci := Option.some.inj (k3.symm.trans hcls.1)
    subst hcomp
    obtain ⟨kC, hkC, -⟩ := hcls.2
    exact W.aast C'.1.1 C'.1.2.1 hat (fun q h => by cases h) (fun h => by cases h) k1 k2 rfl hkC ⟨h0, by show _ < (arrV _ _ _).slots.size; rw [arrV_size]; exact hlt⟩ g1 (fun q h => by rw [g3] at h; cases h) (by rw [g2]; exact hkC) (by rw [g2]; exact va_assign hcls) rfl rfl hdg fun H1 e1 z oq => fin H1 _ e1 z oq
theorem mv_new {ci N index : Nat} {C : String} {T : u_T} {ty : Nat → FieldType} {fs : List Value} (Kc : mv_cls X ci C T N ty) (hw1 : Cond.classLink (mk_own k) index C ∈ mx_Ts X) (hw2 : Cond.instantiable C N ∈ mx_Ts X) (hw3 : Cond.initialized C ∈ mx_Ts X) (hfs : ∀ j, j < N → defaultValue (ty j) = vp_V fs j) (hdg : decode (mk_cc k) pc = .ok (.new index, 3))
    (kk : mv_H X k M0 b1 b2 QQ (mj_new M ci N fs) (pc + 3) lv (va_rf (some M.1) :: rest)) : mv_H X k M0 b1 b2 QQ M pc lv rest := by
  have k1 : M.1 + 1 ≤ b1 := kk.1.1
  have k2 : M.2.1 + N ≤ b2 := kk.1.2
  refine ⟨⟨by omega, by omega⟩, fun p e s m args below meth c H locs ls C' hok hS h1 h2 hl => ?_⟩
  have hts := C'.1.2.2.2.2
  have hKn := C'.2.1.1.1.1 ci _ Kc.1
  refine W.newcK C'.1.1 C'.1.2.1 C'.1.2.2.2.1 (hts _ hw1) (hts _ hw2) (hts _ hw3) rfl hdg (by show _ ≤ b1 - M0.1; omega) (by show _ ≤ b2 - M0.2.1; omega) hKn.2.1 hok.1 fun H1 kC hkC e1 z1 o1 => ?_
  have hz := hok.1
  have kw := kk.2 p e s m args below meth c H1 locs ls C' (hok.push (Nat.le_trans C'.2.1.2.2.2.1 hS.1) (by rw [z1, hz]) (fun q hq => o1 q (by rw [← hz]; exact hq)) ⟨_, Kc.1, by rw [hz]; exact (u_born ty hts Kc.2.1 hKn hkC e1 Kc.2.2.1).to hfs⟩) (mv_Spush hS (by rw [z1, hz]) (fun q hq => o1 q (by rw [← hz]; exact hq))) (Nat.le_succ_of_le h1) (Nat.le_trans h2 (Nat.le_add_right _ _)) hl
  have e2 : (mj_new M ci N fs).1 - M0.1 = M.1 - M0.1 + 1 := by show M.1 + 1 - M0.1 = _; omega
  have e3 : (mj_new M ci N fs).2.1 - M0.2.1 = M.2.1 - M0.2.1 + N := by show M.2.1 + N - M0.2.1 = _; omega
  rw [e2, e3] at kw
  exact kw
theorem mv_newa {β : Type} {t : Nat} {atype : ArrayType} {ty : FieldType} {n : Int32} {x : vp_A} {A : Option β} {w : β} (ht : (mx_ty X)[t]? = some ty) (hty : newarray.typeOf atype = ty) (hw : Cond.arrayClass ty ∈ mx_Ts X) (hx : ∀ cA : ClassId, vp_cell cA x = arrV cA n.toNatClampNeg (fun _ => defaultValue ty)) (hby : componentBytes ty ≤ 8) (hra : ∀ (U : State) (c1 c2 : ClassId), U.vm.findClass ("[" ++ ty.toString) = some c1 → va_RA U c2 ty → c1 = c2) (hdg : decode (mk_cc k) pc = .ok (.newarray atype, 2)) (hJ : (if n < 0 ∨ 65536 < n.toNatClampNeg then none else A) = some w)
    (kk : A = some w → mv_H X k M0 b1 b2 QQ (mj_newa M t n x) (pc + 2) lv (va_rf (some M.1) :: rest)) : mv_H X k M0 b1 b2 QQ M pc lv (.int n :: rest) := by
  by_cases hn : n < 0 ∨ 65536 < n.toNatClampNeg
  · rw [if_pos hn] at hJ; cases hJ
  rw [if_neg hn] at hJ
  have kk := kk hJ
  have k1 : M.1 + 1 ≤ b1 := kk.1.1
  have k2 : M.2.1 + n.toNatClampNeg ≤ b2 := kk.1.2
  refine ⟨⟨by omega, by omega⟩, fun p e s m args below meth c H locs ls C' hok hS h1 h2 hl => ?_⟩
  have hts := C'.1.2.2.2.2
  subst hty
  have hb : n.toNatClampNeg * componentBytes (newarray.typeOf atype) ≤ 536870912 := Nat.le_trans (Nat.mul_le_mul (show n.toNatClampNeg ≤ 65536 by omega) hby) (by decide)
  refine va_newaK C'.1.1 C'.1.2.1 (hts _ hw) rfl hdg rfl (fun h => hn (Or.inl h)) rfl hb (by show _ ≤ b1 - M0.1; omega) (by show _ ≤ b2 - M0.2.1; omega) hok.1 fun H1 cA e1 z1 o1 hAr hNm => ?_
  have hz := hok.1
  have hcA : cA = mx_E X t := hra s _ _ hNm (C'.2.1.1.2 t _ ht).2.1
  have kw := kk.2 p e s m args below meth c H1 locs ls C' (hok.push (x := .inl (t, x)) (Nat.le_trans C'.2.1.2.2.2.1 hS.1) (by rw [z1, hz]) (fun q hq => o1 q (by rw [← hz]; exact hq)) (by show H1[H.size]? = some (vp_cell _ _); rw [hz, e1, hcA, ← hx])) (mv_Spush hS (by rw [z1, hz]) (fun q hq => o1 q (by rw [← hz]; exact hq))) (Nat.le_succ_of_le h1) (Nat.le_trans h2 (Nat.le_add_right _ _)) hl
  have e2 : (mj_newa M t n x).1 - M0.1 = M.1 - M0.1 + 1 := by show M.1 + 1 - M0.1 = _; omega
  have e3 : (mj_newa M t n x).2.1 - M0.2.1 = M.2.1 - M0.2.1 + n.toNatClampNeg := by show M.2.1 + n.toNatClampNeg - M0.2.1 = _; omega
  rw [e2, e3] at kw
  exact kw
theorem mv_newq {β : Type} {t index : Nat} {C : String} {n : Int32} {A : Option β} {w : β} (ht : (mx_ty X)[t]? = some (.object C)) (hw1 : Cond.classLink (mk_own k) index C ∈ mx_Ts X) (hdg : decode (mk_cc k) pc = .ok (.anewarray index, 3)) (hJ : (if n < 0 ∨ 65536 < n.toNatClampNeg then none else A) = some w)
    (kk : A = some w → mv_H X k M0 b1 b2 QQ (mj_newa M t n (n.toNatClampNeg, .inr (.inr (.inr (.inr (fun _ => none)))))) (pc + 3) lv (va_rf (some M.1) :: rest)) : mv_H X k M0 b1 b2 QQ M pc lv (.int n :: rest) := by
  by_cases hn : n < 0 ∨ 65536 < n.toNatClampNeg
  · rw [if_pos hn] at hJ; cases hJ
  rw [if_neg hn] at hJ
  have kk := kk hJ
  have k1 : M.1 + 1 ≤ b1 := kk.1.1
  have k2 : M.2.1 + n.toNatClampNeg ≤ b2 := kk.1.2
  refine ⟨⟨by omega, by omega⟩, fun p e s m args below meth c H locs ls C' hok hS h1 h2 hl => ?_⟩
  have hts := C'.1.2.2.2.2
  have hz := hok.1
  refine W.anew C'.1.1 C'.1.2.1 C'.1.2.2.2.1 (hts _ hw1) (va_AO.use ((C'.2.1.1.2 t _ ht).2.2 C rfl)) rfl hdg rfl (fun h => hn (Or.inl h)) (by omega) (by show _ ≤ b1 - M0.1; omega) (by show _ ≤ b2 - M0.2.1; omega) fun cA kA comp f1 f2 f3 f4 => ?_
  obtain ⟨kA', comp', j1, j2, j3, j4⟩ := (C'.2.1.1.2 t _ ht).2.1
  have hcA : cA = mx_E X t := Option.some.inj (f1.symm.trans j4)
  have hz1 : (H.push ({ cls := cA, slots := Array.replicate n.toNatClampNeg .null, vm := .none } : Cell)).size = H.size + 1 := by simp
  have ho1 : ∀ q : Nat, q < H.size → (H.push ({ cls := cA, slots := Array.replicate n.toNatClampNeg .null, vm := .none } : Cell))[q]? = H[q]? := fun q hq => by rw [Array.getElem?_push, if_neg (Nat.ne_of_lt hq)]
  have hnew : (H.push ({ cls := cA, slots := Array.replicate n.toNatClampNeg .null, vm := .none } : Cell))[H.size]? = some (arrV cA n.toNatClampNeg (fun _ => .null)) := by rw [← arrV_new]; simp
  have kw := kk.2 p e s m args below meth c _ locs ls C' (hok.push (x := .inl (t, n.toNatClampNeg, .inr (.inr (.inr (.inr (fun _ => none)))))) (Nat.le_trans C'.2.1.2.2.2.1 hS.1) hz1 ho1 (by show _ = some (vp_cell _ _); rw [hnew, hcA]; rfl)) (mv_Spush hS hz1 ho1) (Nat.le_succ_of_le h1) (Nat.le_trans h2 (Nat.le_add_right _ _)) hl
  have e2 : (mj_newa M t n (n.toNatClampNeg, .inr (.inr (.inr (.inr (fun _ => none)))))).1 - M0.1 = M.1 - M0.1 + 1 := by show M.1 + 1 - M0.1 = _; omega
  have e3 : (mj_newa M t n (n.toNatClampNeg, .inr (.inr (.inr (.inr (fun _ => none)))))).2.1 - M0.2.1 = M.2.1 - M0.2.1 + n.toNatClampNeg := by show M.2.1 + n.toNatClampNeg - M0.2.1 = _; omega
  have e4 : (Value.ref H.size) = va_rf (some M.1) := by rw [hz]; rfl
  rw [e2, e3] at kw
  rw [e4]
  exact kw
theorem mv_ifnull {β : Type} {r : Option Nat} {off : Int} {tgt : Nat} {A : Option β} {f : Nat → Option β} {w : Option β} (hdg : decode (mk_cc k) pc = .ok (.ifnull off, 3)) (ht : (pc : Int) + off = (tgt : Int)) (hJ : mj_opt r A f = w) (kt : r = none → A = w → mv_H X k M0 b1 b2 QQ M tgt lv rest) (kf : ∀ a, r = some a → f a = w → mv_H X k M0 b1 b2 QQ M (pc + 3) lv rest) : mv_H X k M0 b1 b2 QQ M pc lv (va_rf r :: rest) := by
  cases r with
  | none => exact mv_pure (kt rfl hJ) (fun _ _ _ _ _ _ _ _ _ _ _ _ _ _ _ hx hb ho hts hl w => lv_ifnullN hx hb hdg ht w)
  | some a => exact mv_pure (kf a rfl hJ) (fun _ _ _ _ _ _ _ _ _ _ _ _ _ _ _ hx hb ho hts hl w => lv_ifnull hx hb hdg w)
theorem mv_ifnonnull {β : Type} {r : Option Nat} {off : Int} {tgt : Nat} {A : Option β} {f : Nat → Option β} {w : Option β} (hdg : decode (mk_cc k) pc = .ok (.ifnonnull off, 3)) (ht : (pc : Int) + off = (tgt : Int)) (hJ : mj_opt r A f = w) (kf : r = none → A = w → mv_H X k M0 b1 b2 QQ M (pc + 3) lv rest) (kt : ∀ a, r = some a → f a = w → mv_H X k M0 b1 b2 QQ M tgt lv rest) : mv_H X k M0 b1 b2 QQ M pc lv (va_rf r :: rest) := by
  cases r with
  | none => exact mv_pure (kf rfl hJ) (fun _ _ _ _ _ _ _ _ _ _ _ _ _ _ _ hx hb ho hts hl w => lv_ifnonnullN hx hb hdg w)
  | some a => exact mv_pure (kt a rfl hJ) (fun _ _ _ _ _ _ _ _ _ _ _ _ _ _ _ hx hb ho hts hl w => lv_ifnonnull hx hb hdg ht w)
theorem mv_objInit {idx a : Nat} (hw1 : Cond.methodLink (mk_own k) idx Lib.objectInit ∈ mx_Ts X) (hw2 : Cond.instanceMethod Lib.objectInit ∈ mx_Ts X) (hw3 : Cond.code Lib.objectInit ⟨#[0xb1]⟩ 1 none ∈ mx_Ts X) (hdg : decode (mk_cc k) pc = .ok (.invokespecial idx, 3)) (hfr : 1 ≤ mk_fr k) (hlo : 20 ≤ mk_lo k) (hr : (rest.map fun v => v.category).sum ≤ 8)
    (kk : mv_H X k M0 b1 b2 QQ M (pc + 3) lv rest) : mv_H X k M0 b1 b2 QQ M pc lv (va_rf (some a) :: rest) := by
  refine ⟨kk.1, fun p e s m args below meth c H locs ls C' hok hS h1 h2 hl => ?_⟩
  have hts := C'.1.2.2.2.2
  have hroom := lv_room (m := m) (pc := pc) (ls := ls) (rest := (Value.ref a) :: rest) hr
  exact W.objInit C'.1.1 C'.1.2.1 C'.1.2.2.2.1 (hts _ hw1) (hts _ hw2) (hts _ hw3) rfl (by rw [C'.1.2.2.1]; exact hl.1) rfl hdg hfr (Nat.le_trans (Nat.add_le_add_right hroom 12) hlo) (kk.2 p e s m args below meth c H locs ls C' hok hS h1 h2 hl)
theorem mv_good {y : MethodName} {cc : ByteArray} {maxL : Nat} {ret : Option FieldType} {Ts : List Cond} (hg : ∀ w ∈ Ts, goodWord w = true) (hc : Cond.code y cc maxL ret ∈ Ts) : GoodIn Ts (Cond.code y cc maxL ret :: Ts) := by
  intro w hw
  rcases List.mem_cons.mp hw with rfl | h
  · exact ⟨hc, good_of_word (hg _ hc)⟩
  · exact ⟨h, good_of_word (hg _ h)⟩
theorem mv_blind {av : List Value} {M2 : mv_M} : FrameBlind (va_Pc av (mv_Pre X M2)) := by
  intro a U g mk q
  obtain ⟨q0, q1, q2⟩ := q
  exact ⟨q0, q1, q2.go (u := U) (U := U.calling g mk a) (Vm.Alike.refl U.vm) (fun h q hq => va_Nw.same rfl (show U.vm = (U.calling g mk a).vm from rfl) (h q hq)) (Nat.le_refl _) (fun _ _ _ => rfl)⟩
theorem mv_pre {s : State} {H : Heap} {locs : List Loc} {av : List Value} (hok : mv_ok X M H) (hS0 : mv_S0 X s) (hS : va_S (mv_A X) s.heap H locs) : ∀ U : State, U.heap = H → s.WarmedH U.vm → va_Pc av (mv_Pre X M) av.toArray U := by
  intro U hU hW
  refine ⟨rfl, by rw [hU]; exact hok, hS0.go hW.alike (fun h q hq => (h q hq).warmM hW) (by rw [hU]; exact hS.1) (fun a h1 h2 => by rw [hU]; exact hS.2.1 a h1 h2)⟩
theorem mv_ofRun {p : Program} {e : Env} {s : State} {m : MethodId} {args a : Array Value} {below : List Frame} {meth : Method} {c : Code} {H : Heap} {locs : List Loc} {ls : Array Slot} {st0 : List Value} {rv2 : Option Value} {M2 : mv_M} (h0 : M.1 ≤ M2.1 ∧ M.2.1 ≤ M2.2.1) (C' : mv_C X k p s m args meth c) (hS : va_S (mv_A X) s.heap H locs) (h1 : M0.1 ≤ M.1) (h2 : M0.2.1 ≤ M.2.1) (hl : lv_has ls (mk_nL k) lv)
    (hr : va_Run p (mx_l X) e (mv_R k M0 b1 b2) s m args below meth c H locs (M.1 - M0.1) (M.2.1 - M0.2.1) (M2.1 - M.1) (M2.2.1 - M.2.1) (F0 m pc ls st0) rest (mv_Q X rv2 M2 a) (mv_A X))
    (kk : mv_H X k M0 b1 b2 QQ M2 (pc + 3) lv (rv2.toList ++ rest)) : W p (mx_l X) e (mv_R k M0 b1 b2) s m args below meth c H locs (M.1 - M0.1) (M.2.1 - M0.2.1) (QQ below args s) (F0 m pc ls st0) := by
  intro T hT XX
  obtain ⟨v, st₀, t, T', L, g0, X', hL, e1, e2, ⟨hv, hok2, hz, hk2⟩, st⟩ := hr T hT XX
  cases hv
  rw [g0] at hz hk2
  have e3 : M.1 - M0.1 + (M2.1 - M.1) = M2.1 - M0.1 := by omega
  have e4 : M.2.1 - M0.2.1 + (M2.2.1 - M.2.1) = M2.2.1 - M0.2.1 := by omega
  rw [e3, e4] at X'
  obtain ⟨t2, a1, b1⟩ := kk.2 p e s m args below meth c T'.heap (locs ++ L) ls C' (by rw [e1]; exact hok2)
    ⟨Nat.le_trans hS.1 (by rw [e1]; exact hz), fun q g1 g2 => by rw [e1, hk2 q (Nat.lt_of_lt_of_le g1 hS.1) g2]; exact hS.2.1 q g1 g2, fun q hq => by
      rcases List.mem_append.mp hq with h | h
      · exact hS.2.2 q h
      · exact hL q h⟩ (by omega) (by omega) hl T' rfl X'
  exact ⟨t2, st t2 a1, b1⟩
theorem mv_callS {y : MethodName} {bytes : ByteArray} {maxL fr lo index n : Nat} {ret : Option FieldType} {av st : List Value} {rv2 : Option Value} {M2 : mv_M} (hdg : decode (mk_cc k) pc = .ok (.invokestatic index, 3)) (hM : mv_Met X y bytes maxL ret fr lo av M rv2 M2) (hw1 : Cond.methodLink (mk_own k) index y ∈ mx_Ts X) (hw2 : Cond.static y ∈ mx_Ts X) (hw3 : Cond.initialized y.cls ∈ mx_Ts X) (hw4 : Cond.code y bytes maxL ret ∈ mx_Ts X)
    (hd : y.cls ≠ "java/lang/invoke/MethodHandle" ∧ y.cls ≠ "java/lang/invoke/VarHandle" ∧ (parseMethodDescriptor y.desc).map (fun d => d.parameters.length) = some n) (hn : av.length = n) (hR : fr + 1 ≤ mk_fr k ∧ 8 + (maxL + 11) + lo ≤ mk_lo k) (hr : (rest.map fun v => v.category).sum ≤ 8) (hst : st = av.reverse ++ rest)
    (kk : mv_H X k M0 b1 b2 QQ M2 (pc + 3) lv (rv2.toList ++ rest)) : mv_H X k M0 b1 b2 QQ M pc lv st := by
  have k1 := kk.1
  have k2 := hM.1
  refine ⟨⟨by omega, by omega⟩, fun p e s m args below meth c H locs ls C' hok hS h1 h2 hl => ?_⟩
  have hts := C'.1.2.2.2.2
  exact mv_ofRun hM.1 C' hS h1 h2 hl (va_runS (g := F0 m pc ls st) C'.1 hM.2 ⟨callB_of n hts (mv_good C'.2.1.2.2.2.2 hw4) rfl rfl rfl (hts _ hw3) (hts _ hw1) hd hR, hts _ hw2⟩ ⟨mv_blind, mv_pre hok C'.2.1 hS⟩ rfl hn hl.1 hst (lv_room hr) hdg ⟨by show _ ≤ b1 - M0.1; omega, by show _ ≤ b2 - M0.2.1; omega⟩) kk
theorem mv_recv {ci N b : Nat} {C : String} {T : u_T} {ty : Nat → FieldType} {fs : List Value} {s : State} {H : Heap} (Kc : mv_cls X ci C T N ty) (hb : M.2.2 b = some (.inr (ci, fs))) (hok : mv_ok X M H) (hS0 : mv_S0 X s) : ∃ cell : Cell, H[b]? = some cell ∧ cell.vm.isStatics = false ∧ s.vm.findClass C = some cell.cls := by
  obtain ⟨-, q', g0, cell, g1, g2, g3, -⟩ := hok.2 b _ hb
  exact ⟨cell, g1, by rw [g3]; rfl, by rw [g2]; exact (hS0.1.1.1 ci _ Kc.1).2.1⟩
/-- an object of class ci is there -/
def mj_is (M : mv_M) (b ci : Nat) : Bool := match M.2.2 b with
  | some (.inr q) => decide (q.1 = ci)
  | _ => false
theorem mj_is_at {b ci : Nat} (h : mj_is M b ci = true) : ∃ fs : List Value, M.2.2 b = some (.inr (ci, fs)) := by
  unfold mj_is at h
  split at h
  · rename_i q hq
    exact ⟨q.2, by rw [hq, ← of_decide_eq_true h]⟩
  · cases h
theorem mv_callV {ci N b : Nat} {T : u_T} {ty : Nat → FieldType} {y : MethodName} {bytes : ByteArray} {maxL fr lo index n : Nat} {ret : Option FieldType} {av st : List Value} {rv2 : Option Value} {M2 : mv_M} (hdg : decode (mk_cc k) pc = .ok (.invokevirtual index, 3)) (Kc : mv_cls X ci y.cls T N ty) (hi : mj_is M b ci = true) (hM : mv_Met X y bytes maxL ret fr lo (va_rf (some b) :: av) M rv2 M2) (hw1 : Cond.methodLink (mk_own k) index y ∈ mx_Ts X) (hw2 : Cond.instanceMethod y ∈ mx_Ts X) (hw5 : Cond.selects y.cls y y ∈ mx_Ts X) (hw3 : Cond.initialized y.cls ∈ mx_Ts X) (hw4 : Cond.code y bytes maxL ret ∈ mx_Ts X)
    (hd : y.cls ≠ "java/lang/invoke/MethodHandle" ∧ y.cls ≠ "java/lang/invoke/VarHandle" ∧ (parseMethodDescriptor y.desc).map (fun d => d.parameters.length) = some n) (hn : av.length = n) (hR : fr + 1 ≤ mk_fr k ∧ 8 + (maxL + 11) + lo ≤ mk_lo k) (hr : (rest.map fun v => v.category).sum ≤ 8) (hst : st = av.reverse ++ va_rf (some b) :: rest)
    (kk : mv_H X k M0 b1 b2 QQ M2 (pc + 3) lv (rv2.toList ++ rest)) : mv_H X k M0 b1 b2 QQ M pc lv st := by
  have k1 := kk.1
  have k2 := hM.1
  obtain ⟨fs, hb⟩ := mj_is_at hi
  refine ⟨⟨by omega, by omega⟩, fun p e s m args below meth c H locs ls C' hok hS h1 h2 hl => ?_⟩
  have hts := C'.1.2.2.2.2
  exact mv_ofRun hM.1 C' hS h1 h2 hl (va_runV (g := F0 m pc ls st) (C := y.cls) (b := b) (As := av) C'.1 hM.2 ⟨callB_of n hts (mv_good C'.2.1.2.2.2.2 hw4) rfl rfl rfl (hts _ hw3) (hts _ hw1) hd hR, hts _ hw2, hts _ hw5⟩ ⟨mv_blind, mv_recv Kc hb hok C'.2.1, mv_pre hok C'.2.1 hS⟩ rfl hn hl.1 hst (lv_room hr) hdg ⟨by show _ ≤ b1 - M0.1; omega, by show _ ≤ b2 - M0.2.1; omega⟩) kk
theorem mv_callI {b : Nat} {y : MethodName} {bytes : ByteArray} {maxL fr lo index n : Nat} {av st : List Value} {M2 : mv_M} (hdg : decode (mk_cc k) pc = .ok (.invokespecial index, 3)) (hM : mv_Met X y bytes maxL none fr lo (va_rf (some b) :: av) M none M2) (hw1 : Cond.methodLink (mk_own k) index y ∈ mx_Ts X) (hw2 : Cond.instanceMethod y ∈ mx_Ts X) (hw3 : Cond.initialized y.cls ∈ mx_Ts X) (hw4 : Cond.code y bytes maxL none ∈ mx_Ts X) (hy1 : y.name = "<init>")
    (hd : y.cls ≠ "java/lang/invoke/MethodHandle" ∧ y.cls ≠ "java/lang/invoke/VarHandle" ∧ (parseMethodDescriptor y.desc).map (fun d => d.parameters.length) = some n) (hn : av.length = n) (hR : fr + 1 ≤ mk_fr k ∧ 8 + (maxL + 11) + lo ≤ mk_lo k) (hr : (rest.map fun v => v.category).sum ≤ 8) (hst : st = av.reverse ++ va_rf (some b) :: rest)
    (kk : mv_H X k M0 b1 b2 QQ M2 (pc + 3) lv rest) : mv_H X k M0 b1 b2 QQ M pc lv st := by
  have k1 := kk.1
  have k2 := hM.1
  refine ⟨⟨by omega, by omega⟩, fun p e s m args below meth c H locs ls C' hok hS h1 h2 hl => ?_⟩
  have hts := C'.1.2.2.2.2
  exact mv_ofRun (rv2 := none) hM.1 C' hS h1 h2 hl (va_runI (g := F0 m pc ls st) (b := b) (As := av) C'.1 hM.2 ⟨callB_of n hts (mv_good C'.2.1.2.2.2.2 hw4) rfl rfl rfl (hts _ hw3) (hts _ hw1) hd hR, hy1, hts _ hw2⟩ ⟨mv_blind, mv_pre hok C'.2.1 hS⟩ rfl hn hl.1 hst (lv_room hr) hdg ⟨by show _ ≤ b1 - M0.1; omega, by show _ ≤ b2 - M0.2.1; omega⟩) kk
theorem mv_callIN {b : Nat} {y : MethodName} {host : String} {bytes : ByteArray} {maxL fr lo index n : Nat} {av st : List Value} {M2 : mv_M} (hdg : decode (mk_cc k) pc = .ok (.invokespecial index, 3)) (hM : mv_Met X y bytes maxL none fr lo (va_rf (some b) :: av) M none M2) (hw1 : (mk_own k, index, y, host) ∈ mx_nm X) (hw2 : Cond.instanceMethod y ∈ mx_Ts X) (hw3 : Cond.initialized y.cls ∈ mx_Ts X) (hw4 : Cond.code y bytes maxL none ∈ mx_Ts X) (hy1 : y.name = "<init>")
    (hd : y.cls ≠ "java/lang/invoke/MethodHandle" ∧ y.cls ≠ "java/lang/invoke/VarHandle" ∧ (parseMethodDescriptor y.desc).map (fun d => d.parameters.length) = some n) (hn : av.length = n) (hR : fr + 1 ≤ mk_fr k ∧ 8 + (maxL + 11) + lo ≤ mk_lo k) (hr : (rest.map fun v => v.category).sum ≤ 8) (hst : st = av.reverse ++ va_rf (some b) :: rest)
    (kk : mv_H X k M0 b1 b2 QQ M2 (pc + 3) lv rest) : mv_H X k M0 b1 b2 QQ M pc lv st := by
  have k1 := kk.1
  have k2 := hM.1
  refine ⟨⟨by omega, by omega⟩, fun p e s m args below meth c H locs ls C' hok hS h1 h2 hl => ?_⟩
  have hts := C'.1.2.2.2.2
  exact mv_ofRun (rv2 := none) hM.1 C' hS h1 h2 hl (va_runIN (g := F0 m pc ls st) (b := b) (As := av) C'.1 hM.2 ⟨va_cnB n hts (mv_good C'.2.1.2.2.2.2 hw4) rfl rfl rfl (C'.2.1.2.1 _ hw1) (hts _ hw3) hd hR, hy1, hts _ hw2⟩ ⟨mv_blind, mv_pre hok C'.2.1 hS⟩ rfl hn hl.1 hst (lv_room hr) hdg ⟨by show _ ≤ b1 - M0.1; omega, by show _ ≤ b2 - M0.2.1; omega⟩) kk
end MVN
section MVE
variable {X : mv_X} {k : mv_Kd} {M0 M1 M : mv_M} {pc : Nat} {lv : List (Nat × Value)}
theorem mv_iret {v r : Int32} (hr : mk_ret k = some .int) (hdg : decode (mk_cc k) pc = .ok (.ireturn, 1)) (hJ : some (v, M) = some (r, M1)) : mv_G X k M0 M1 (some (.int r)) M pc lv [.int v] := by
  cases hJ
  exact ⟨⟨Nat.le_refl _, Nat.le_refl _⟩, fun p e s m args below meth c H locs ls C' hok hS h1 h2 hl => W.iret C'.1.1 C'.1.2.1 (C'.2.2.1.trans hr) (fun t ht hW => ⟨rfl, by rw [ht]; exact hok, hS.F ht⟩) hS.2.2 hdg C'.2.2.2.1⟩
theorem mv_zret {v r : Int32} (hr : mk_ret k = some .boolean) (hdg : decode (mk_cc k) pc = .ok (.ireturn, 1)) (hJ : (if v = 0 ∨ v = 1 then some (v, M) else none) = some (r, M1)) : mv_G X k M0 M1 (some (.int r)) M pc lv [.int v] := by
  by_cases h : v = 0 ∨ v = 1
  · rw [if_pos h] at hJ
    cases hJ
    exact ⟨⟨Nat.le_refl _, Nat.le_refl _⟩, fun p e s m args below meth c H locs ls C' hok hS h1 h2 hl => W.zret (ty := .boolean) C'.1.1 C'.1.2.1 (C'.2.2.1.trans hr) (by rcases h with rfl | rfl <;> decide) (fun t ht hW => ⟨rfl, by rw [ht]; exact hok, hS.F ht⟩) hS.2.2 hdg C'.2.2.2.1⟩
  · rw [if_neg h] at hJ; cases hJ
theorem mv_lret {v r : Int64} (hr : mk_ret k = some .long) (hdg : decode (mk_cc k) pc = .ok (.lreturn, 1)) (hJ : some (v, M) = some (r, M1)) : mv_G X k M0 M1 (some (.long r)) M pc lv [.long v] := by
  cases hJ
  exact ⟨⟨Nat.le_refl _, Nat.le_refl _⟩, fun p e s m args below meth c H locs ls C' hok hS h1 h2 hl => W.lret C'.1.1 C'.1.2.1 (C'.2.2.1.trans hr) (fun t ht hW => ⟨rfl, by rw [ht]; exact hok, hS.F ht⟩) hS.2.2 hdg C'.2.2.2.1⟩
theorem mv_aret {v r : Option Nat} {rt : FieldType} (hr : mk_ret k = some rt) (hrt : (∃ n, rt = .object n) ∨ ∃ t, rt = .array t) (hdg : decode (mk_cc k) pc = .ok (.areturn, 1)) (hJ : some (v, M) = some (r, M1)) : mv_G X k M0 M1 (some (va_rf r)) M pc lv [va_rf v] := by
  cases hJ
  exact ⟨⟨Nat.le_refl _, Nat.le_refl _⟩, fun p e s m args below meth c H locs ls C' hok hS h1 h2 hl => W.aret C'.1.1 C'.1.2.1 (C'.2.2.1.trans hr) hrt (va_rf_or _) (fun t ht hW => ⟨rfl, by rw [ht]; exact hok, hS.F ht⟩) hS.2.2 hdg C'.2.2.2.1⟩
theorem mv_vret {r : Unit} (hr : mk_ret k = none) (hdg : decode (mk_cc k) pc = .ok (.return_, 1)) (hJ : some ((), M) = some (r, M1)) : mv_G X k M0 M1 none M pc lv [] := by
  cases hJ
  exact ⟨⟨Nat.le_refl _, Nat.le_refl _⟩, fun p e s m args below meth c H locs ls C' hok hS h1 h2 hl => W.vret C'.1.1 C'.1.2.1 (C'.2.2.1.trans hr) (fun t ht hW => ⟨rfl, by rw [ht]; exact hok, hS.F ht⟩) hS.2.2 hdg C'.2.2.2.1⟩
end MVE
/-! making, with the new cell's address named; switches -/
def mj_nw {β : Type} (M : mv_M) (ci n : Nat) (fs : List Value) (f : Nat → mv_M → Option β) : Option β := f M.1 (mj_new M ci n fs)
def mj_na {β : Type} (M : mv_M) (t : Nat) (n : Int32) (x : vp_A) (f : Nat → mv_M → Option β) : Option β := if n < 0 ∨ 65536 < n.toNatClampNeg then none else f M.1 (mj_newa M t n x)
section MVO
variable {X : mv_X} {k : mv_Kd} {M0 M : mv_M} {b1 b2 : Nat} {QQ : List Frame → Array Value → State → State → Prop} {pc : Nat} {lv : List (Nat × Value)} {rest : List Value}
theorem mv_nw {β : Type} {ci N index : Nat} {C : String} {T : u_T} {ty : Nat → FieldType} {fs : List Value} {f : Nat → mv_M → Option β} {w : β} (Kc : mv_cls X ci C T N ty) (hw1 : Cond.classLink (mk_own k) index C ∈ mx_Ts X) (hw2 : Cond.instantiable C N ∈ mx_Ts X) (hw3 : Cond.initialized C ∈ mx_Ts X) (hfs : ∀ j, j < N → defaultValue (ty j) = vp_V fs j) (hdg : decode (mk_cc k) pc = .ok (.new index, 3)) (hJ : mj_nw M ci N fs f = some w)
    (kk : ∀ (q : Nat) (M2 : mv_M), q = M.1 → M2 = mj_new M ci N fs → f q M2 = some w → mv_H X k M0 b1 b2 QQ M2 (pc + 3) lv (va_rf (some q) :: rest)) : mv_H X k M0 b1 b2 QQ M pc lv rest :=
  mv_new Kc hw1 hw2 hw3 hfs hdg (kk _ _ rfl rfl hJ)
theorem mv_na {β : Type} {t : Nat} {atype : ArrayType} {ty : FieldType} {n : Int32} {x : vp_A} {f : Nat → mv_M → Option β} {w : β} (ht : (mx_ty X)[t]? = some ty) (hty : newarray.typeOf atype = ty) (hw : Cond.arrayClass ty ∈ mx_Ts X) (hx : ∀ cA : ClassId, vp_cell cA x = arrV cA n.toNatClampNeg (fun _ => defaultValue ty)) (hby : componentBytes ty ≤ 8) (hra : ∀ (U : State) (c1 c2 : ClassId), U.vm.findClass ("[" ++ ty.toString) = some c1 → va_RA U c2 ty → c1 = c2) (hdg : decode (mk_cc k) pc = .ok (.newarray atype, 2)) (hJ : mj_na M t n x f = some w)
    (kk : ∀ (q : Nat) (M2 : mv_M), q = M.1 → M2 = mj_newa M t n x → f q M2 = some w → mv_H X k M0 b1 b2 QQ M2 (pc + 2) lv (va_rf (some q) :: rest)) : mv_H X k M0 b1 b2 QQ M pc lv (.int n :: rest) :=
  mv_newa ht hty hw hx hby hra hdg hJ (fun h => kk _ _ rfl rfl h)
theorem mv_nq {β : Type} {t index : Nat} {C : String} {n : Int32} {f : Nat → mv_M → Option β} {w : β} (ht : (mx_ty X)[t]? = some (.object C)) (hw1 : Cond.classLink (mk_own k) index C ∈ mx_Ts X) (hdg : decode (mk_cc k) pc = .ok (.anewarray index, 3)) (hJ : mj_na M t n (n.toNatClampNeg, .inr (.inr (.inr (.inr (fun _ => none))))) f = some w)
    (kk : ∀ (q : Nat) (M2 : mv_M), q = M.1 → M2 = mj_newa M t n (n.toNatClampNeg, .inr (.inr (.inr (.inr (fun _ => none))))) → f q M2 = some w → mv_H X k M0 b1 b2 QQ M2 (pc + 3) lv (va_rf (some q) :: rest)) : mv_H X k M0 b1 b2 QQ M pc lv (.int n :: rest) :=
  mv_newq ht hw1 hdg hJ (fun h => kk _ _ rfl rfl h)
theorem mv_raI (U : State) (c1 c2 : ClassId) (h : U.vm.findClass ("[" ++ FieldType.int.toString) = some c1) (h2 : va_RA U c2 .int) : c1 = c2 := Option.some.inj (h.symm.trans h2)
theorem mv_raL (U : State) (c1 c2 : ClassId) (h : U.vm.findClass ("[" ++ FieldType.long.toString) = some c1) (h2 : va_RA U c2 .long) : c1 = c2 := Option.some.inj (h.symm.trans h2)
theorem mv_raZ (U : State) (c1 c2 : ClassId) (h : U.vm.findClass ("[" ++ FieldType.boolean.toString) = some c1) (h2 : va_RA U c2 .boolean) : c1 = c2 := Option.some.inj (h.symm.trans h2)
theorem mv_tin {x : Int32} (cst : Int32) {dflt lo hi off : Int} {offs : Array Int} {len tgt : Nat} (hdg : decode (mk_cc k) pc = .ok (.tableswitch dflt lo hi offs, len)) (hs : x = cst) (h : ¬ cst.toInt < lo ∧ ¬ hi < cst.toInt ∧ offs[(cst.toInt - lo).toNat]? = some off) (ht : (pc : Int) + off = (tgt : Int)) (kk : mv_H X k M0 b1 b2 QQ M tgt lv rest) : mv_H X k M0 b1 b2 QQ M pc lv (.int x :: rest) := by
  subst hs
  exact mv_pure kk (fun _ _ _ _ _ _ _ _ _ _ _ _ _ _ _ hx hb ho hts hl w => lv_tableIn hx hb hdg h.1 h.2.1 h.2.2 ht w)
theorem mv_tout {x : Int32} {dflt lo hi : Int} {offs : Array Int} {len tgt : Nat} (hdg : decode (mk_cc k) pc = .ok (.tableswitch dflt lo hi offs, len)) (h : x.toInt < lo ∨ hi < x.toInt) (ht : (pc : Int) + dflt = (tgt : Int)) (kk : mv_H X k M0 b1 b2 QQ M tgt lv rest) : mv_H X k M0 b1 b2 QQ M pc lv (.int x :: rest) :=
  mv_pure kk (fun _ _ _ _ _ _ _ _ _ _ _ _ _ _ _ hx hb ho hts hl w => lv_tableOut hx hb hdg h ht w)
theorem mv_lsw {x : Int32} {dflt off : Int} {ps : Array (Int × Int)} {len tgt : Nat} (hdg : decode (mk_cc k) pc = .ok (.lookupswitch dflt ps, len)) (hp : (ps.toList.zip (ps.toList.drop 1)).all (fun (a, next) => a.1 < next.1) = true) (ho : Op.lookupswitch.offset ps.toList dflt x.toInt = off) (ht : (pc : Int) + off = (tgt : Int)) (kk : mv_H X k M0 b1 b2 QQ M tgt lv rest) : mv_H X k M0 b1 b2 QQ M pc lv (.int x :: rest) :=
  mv_pure kk (fun _ _ _ _ _ _ _ _ _ _ _ _ _ _ _ hx hb _ hts hl w => lv_lookup hx hb hdg hp ho ht w)
end MVO
/-! small rows for the walks -/
theorem mv_cat (r : Option Nat) : (va_rf r).category = 1 := by cases r <;> rfl
theorem mv_narR (C : String) (r : Option Nat) : narrow (.object C) (va_rf r) = va_rf r := by cases r <;> rfl
theorem mv_fitR (C : String) (r : Option Nat) : fits (.object C) (va_rf r) = true := by cases r <;> rfl
theorem mv_narA (C : FieldType) (r : Option Nat) : narrow (.array C) (va_rf r) = va_rf r := by cases r <;> rfl
theorem mv_fitA (C : FieldType) (r : Option Nat) : fits (.array C) (va_rf r) = true := by cases r <;> rfl
def mj_ob {β : Type} (M : mv_M) (b ci : Nat) (A : Option β) : Option β := if mj_is M b ci = true then A else none
theorem mj_obE {β : Type} {M : mv_M} {b ci : Nat} {A : Option β} {w : β} (h : mj_ob M b ci A = some w) : mj_is M b ci = true ∧ A = some w := by
  unfold mj_ob at h
  split at h
  · rename_i hi; exact ⟨hi, h⟩
  · cases h
def mj_zz {β : Type} (x : Int32) (A : Option β) : Option β := if x = 0 ∨ x = 1 then A else none
theorem mj_zzE {β : Type} {x : Int32} {A : Option β} {w : β} (h : mj_zz x A = some w) : (x = 0 ∨ x = 1) ∧ A = some w := by
  unfold mj_zz at h
  split at h
  · rename_i hi; exact ⟨hi, h⟩
  · cases h
theorem mj_zzN {x : Int32} (h : x = 0 ∨ x = 1) : narrow .boolean (.int x) = .int x := by rcases h with rfl | rfl <;> decide
theorem mj_zzF {x : Int32} (h : x = 0 ∨ x = 1) : fits .boolean (.int x) = true := by rcases h with rfl | rfl <;> decide
def mj_tab (f : Nat → Int32) (n : Nat) (i : Int32) : Option Int32 := if mj_in i n = true then some (f i.toNatClampNeg) else none
section MVT
variable {X : mv_X} {k : mv_Kd} {M0 M : mv_M} {b1 b2 : Nat} {QQ : List Frame → Array Value → State → State → Prop} {pc : Nat} {lv : List (Nat × Value)} {rest : List Value}
theorem mv_gets {C n : String} {t N index : Nat} {f : Nat → Int32} (hne : ¬ C = "") (hq : (C, n, t, N, f) ∈ mx_sa X) (hw : Cond.fieldLink (mk_own k) index C n "[I" ∈ mx_Ts X) (hdg : decode (mk_cc k) pc = .ok (.getstatic index, 3)) (kk : mv_H X k M0 b1 b2 QQ M (pc + 3) lv (va_rf (some t) :: rest)) : mv_H X k M0 b1 b2 QQ M pc lv rest :=
  ⟨kk.1, fun p e s m args below meth c H locs ls C' hok hS h1 h2 hl => va_gets C'.1.1 C'.1.2.1 ((C'.2.1.2.2.1 _ hq).1.resolve_left hne) hS C'.1.2.2.2.1 (C'.1.2.2.2.2 _ hw) (fun _ h => h) hdg (kk.2 p e s m args below meth c H locs ls C' hok hS h1 h2 hl)⟩
theorem mv_sald {β : Type} {C n : String} {t N : Nat} {f : Nat → Int32} {i : Int32} {g : Int32 → Option β} {w : β} (hq : (C, n, t, N, f) ∈ mx_sa X) (hdg : decode (mk_cc k) pc = .ok (.iaload, 1)) (hJ : (mj_tab f N i).bind g = some w)
    (kk : ∀ x : Int32, mj_tab f N i = some x → g x = some w → mv_H X k M0 b1 b2 QQ M (pc + 1) lv (.int x :: rest)) : mv_H X k M0 b1 b2 QQ M pc lv (.int i :: va_rf (some t) :: rest) := by
  obtain ⟨x, hx, hg⟩ := mj_bindE hJ
  have kk := kk x hx hg
  unfold mj_tab at hx
  split at hx
  · rename_i hin
    cases hx
    exact ⟨kk.1, fun p e s m args below meth c H locs ls C' hok hS h1 h2 hl => va_ti C'.1.1 C'.1.2.1 (C'.2.1.2.2.1 _ hq).2 hS (mj_in_at hin) rfl hdg (kk.2 p e s m args below meth c H locs ls C' hok hS h1 h2 hl)⟩
  · cases hx
end MVT
