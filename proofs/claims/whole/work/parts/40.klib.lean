/-! THE SECOND STEP: objects with arrays of their own as states; rows that carry functions over memory to functions over states -/
abbrev kS : Type := (Nat → Int32) × (Nat → Int64) × (Nat → Nat → Int32) × (Nat → Nat → Int64)
def mj_tabL (f : Nat → Int64) (n : Nat) (i : Int32) : Option Int64 := if mj_in i n = true then some (f i.toNatClampNeg) else none
def mj_gd {β : Type} (i : Int32) (n : Nat) (A : Option β) : Option β := if mj_in i n = true then A else none
def kk_let {α β : Type} (x : α) (f : α → β) : β := f x
def kk_call {α β S : Type} (t : Option (α × S)) (f : α → S → Option β) : Option β := match t with
  | some q => f q.1 q.2
  | none => none
def kI (σ : kS) (k : Nat) (v : Int32) : kS := (upd σ.1 k v, σ.2)
def kL (σ : kS) (k : Nat) (v : Int64) : kS := (σ.1, vp_updL σ.2.1 k v, σ.2.2)
def kA (σ : kS) (f i : Nat) (x : Int32) : kS := (σ.1, σ.2.1, va_up σ.2.2.1 f (upd (σ.2.2.1 f) i x), σ.2.2.2)
def kB (σ : kS) (f i : Nat) (x : Int64) : kS := (σ.1, σ.2.1, σ.2.2.1, va_up σ.2.2.2 f (vp_updL (σ.2.2.2 f) i x))
def kw_over (o K : Nat) (c : Nat → Option va_E) (M : mv_M) : mv_M := (M.1, M.2.1, fun a => if o ≤ a ∧ a ≤ o + K then c (a - o) else M.2.2 a)
theorem kw_at {o K j : Nat} {c : Nat → Option va_E} {M : mv_M} {x : va_E} (hj : j ≤ K) (h : c j = some x) : (kw_over o K c M).2.2 (o + j) = some x := by
  show (if _ then _ else _) = _
  rw [if_pos ⟨Nat.le_add_right _ _, Nat.add_le_add_left hj _⟩, Nat.add_sub_cancel_left]
  exact h
theorem kw_at0 {o K : Nat} {c : Nat → Option va_E} {M : mv_M} {x : va_E} (h : c 0 = some x) : (kw_over o K c M).2.2 o = some x := kw_at (j := 0) (Nat.zero_le _) h
theorem kw_out {o K a : Nat} {c : Nat → Option va_E} {M : mv_M} (h : a < o ∨ o + K < a) : (kw_over o K c M).2.2 a = M.2.2 a := by
  show (if _ then _ else _) = _
  rw [if_neg (by omega)]
theorem kw_self {o K : Nat} {c : Nat → Option va_E} {M : mv_M} (h : ∀ j, j ≤ K → M.2.2 (o + j) = c j) : kw_over o K c M = M := by
  have : (kw_over o K c M).2.2 = M.2.2 := by
    funext a
    by_cases ha : o ≤ a ∧ a ≤ o + K
    · show (if _ then _ else _) = _
      have e : o + (a - o) = a := by omega
      rw [if_pos ha, ← h (a - o) (by omega), e]
    · show (if _ then _ else _) = _
      rw [if_neg ha]
  show (M.1, M.2.1, (kw_over o K c M).2.2) = M
  rw [this]
theorem kw_set {o K j : Nat} {c c' : Nat → Option va_E} {M : mv_M} {x : va_E} (hj : j ≤ K) (h : ∀ i, i ≤ K → c' i = if i = j then some x else c i) : mj_set (kw_over o K c M) (o + j) x = kw_over o K c' M := by
  have : va_up (kw_over o K c M).2.2 (o + j) (some x) = (kw_over o K c' M).2.2 := by
    funext a
    by_cases ha : o ≤ a ∧ a ≤ o + K
    · have e1 : (kw_over o K c' M).2.2 a = c' (a - o) := by show (if _ then _ else _) = _; rw [if_pos ha]
      have e2 : (kw_over o K c M).2.2 a = c (a - o) := by show (if _ then _ else _) = _; rw [if_pos ha]
      rw [e1, h (a - o) (by omega)]
      by_cases hk : a = o + j
      · subst hk
        rw [va_up_self, if_pos (by omega)]
      · rw [va_up_ne _ _ hk, if_neg (by omega), e2]
    · have e1 : (kw_over o K c' M).2.2 a = M.2.2 a := by show (if _ then _ else _) = _; rw [if_neg ha]
      have e2 : (kw_over o K c M).2.2 a = M.2.2 a := by show (if _ then _ else _) = _; rw [if_neg ha]
      rw [e1, va_up_ne _ _ (by omega), e2]
  show (M.1, M.2.1, va_up (kw_over o K c M).2.2 (o + j) (some x)) = (M.1, M.2.1, (kw_over o K c' M).2.2)
  rw [this]
theorem kw_ild {M : mv_M} {a t n : Nat} {f : Nat → Int32} {i : Int32} (h : M.2.2 a = some (.inl (t, n, .inl f))) : mj_ild M a t i = mj_tab f n i := by
  unfold mj_ild mj_tab
  rw [mj_arr_of h]
theorem kw_lld {M : mv_M} {a t n : Nat} {f : Nat → Int64} {i : Int32} (h : M.2.2 a = some (.inl (t, n, .inr (.inl f)))) : mj_lld M a t i = mj_tabL f n i := by
  unfold mj_lld mj_tabL
  rw [mj_arr_of h]
theorem kw_ist {M : mv_M} {a t n : Nat} {f : Nat → Int32} {i x : Int32} (h : M.2.2 a = some (.inl (t, n, .inl f))) : mj_ist M a t i x = if mj_in i n = true then some (mj_set M a (.inl (t, n, .inl (upd f i.toNatClampNeg x)))) else none := by
  unfold mj_ist
  rw [mj_arr_of h]
theorem kw_lst {M : mv_M} {a t n : Nat} {f : Nat → Int64} {i : Int32} {x : Int64} (h : M.2.2 a = some (.inl (t, n, .inr (.inl f)))) : mj_lst M a t i x = if mj_in i n = true then some (mj_set M a (.inl (t, n, .inr (.inl (vp_updL f i.toNatClampNeg x))))) else none := by
  unfold mj_lst
  rw [mj_arr_of h]
theorem km_ite {α β : Type} {c : Prop} [hd : Decidable c] {A B : Option β} {A' B' : Option α} {w : α → β} (h1 : c → A = A'.map w) (h2 : ¬ c → B = B'.map w) : (if c then A else B) = (if c then A' else B').map w := by
  by_cases h : c
  · rw [if_pos h, if_pos h]; exact h1 h
  · rw [if_neg h, if_neg h]; exact h2 h
theorem km_bind {γ α β : Type} {t : Option γ} {f : γ → Option β} {g : γ → Option α} {w : α → β} (h : ∀ x, f x = (g x).map w) : t.bind f = (t.bind g).map w := by
  cases t with
  | none => rfl
  | some x => exact h x
theorem km_gd {α β γ : Type} {i : Int32} {n : Nat} {m : γ} {f : γ → Option β} {A : Option α} {w : α → β} (h : mj_in i n = true → f m = A.map w) : (if mj_in i n = true then some m else none).bind f = (mj_gd i n A).map w := by
  unfold mj_gd
  by_cases hi : mj_in i n = true
  · rw [if_pos hi, if_pos hi]; exact h hi
  · rw [if_neg hi, if_neg hi]; rfl
theorem km_let {α β γ : Type} {A : Option β} {x : γ} {g : γ → Option α} {w : α → β} (h : A = (g x).map w) : A = (kk_let x g).map w := h
theorem km_call {α β γ S : Type} {t : Option (α × S)} {wr : S → mv_M} {f : α → mv_M → Option β} {g : α → S → Option γ} {w : γ → β} (h : ∀ r s, f r (wr s) = (g r s).map w) : mj_call (t.map (fun q => (q.1, wr q.2))) f = (kk_call t g).map w := by
  cases t with
  | none => rfl
  | some q => exact h q.1 q.2
theorem km_callP {α β γ : Type} {t : Option α} {m : mv_M} {f : α → mv_M → Option β} {g : α → Option γ} {w : γ → β} (h : ∀ r, f r m = (g r).map w) : mj_call (t.map (fun q => (q, m))) f = (t.bind g).map w := by
  cases t with
  | none => rfl
  | some q => exact h q
