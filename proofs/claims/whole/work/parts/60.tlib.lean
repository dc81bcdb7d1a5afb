/-! THE TAPE as a state: n nodes; what stays (links, shapes, views, addresses) is ρ, what changes is τ -/
abbrev tR : Type := Nat × (Nat → Nat → Option Nat) × (Nat → Nat → Int32) × (Nat → Nat → Option (Nat → Int32)) × (Nat → Nat → Nat)
abbrev tS : Type := (Nat → Int32) × (Nat → Int64) × (Nat → Nat → Int32) × (Nat → Nat → Int64) × (Nat → Nat → Nat → Int64)
abbrev tQ : Type := Nat × (Nat → Option (Nat × Nat))
abbrev t_n (ρ : tR) : Nat := ρ.1
abbrev t_R (ρ : tR) (i f : Nat) : Option Nat := ρ.2.1 i f
abbrev t_H (ρ : tR) (i f : Nat) : Int32 := ρ.2.2.1 i f
abbrev t_W (ρ : tR) (i f : Nat) : Option (Nat → Int32) := ρ.2.2.2.1 i f
abbrev t_A (ρ : tR) (i c : Nat) : Nat := ρ.2.2.2.2 i c
abbrev t_len (ρ : tR) (i : Nat) : Nat := (t_H ρ i 4).toNatClampNeg
def tI (τ : tS) (k : Nat) (v : Int32) : tS := (upd τ.1 k v, τ.2)
def tL (τ : tS) (k : Nat) (v : Int64) : tS := (τ.1, vp_updL τ.2.1 k v, τ.2.2)
def tN (τ : tS) (i k : Nat) (v : Int32) : tS := (τ.1, τ.2.1, va_up τ.2.2.1 i (upd (τ.2.2.1 i) k v), τ.2.2.2)
def tP (τ : tS) (i k : Nat) (v : Int64) : tS := (τ.1, τ.2.1, τ.2.2.1, va_up τ.2.2.2.1 i (vp_updL (τ.2.2.2.1 i) k v), τ.2.2.2.2)
def tV (τ : tS) (i f x : Nat) (v : Int64) : tS := (τ.1, τ.2.1, τ.2.2.1, τ.2.2.2.1, va_up τ.2.2.2.2 i (va_up (τ.2.2.2.2 i) f (vp_updL (τ.2.2.2.2 i f) x v)))
def t_node (ρ : tR) (τ : tS) (i : Nat) : List Value := [.ref (t_A ρ i 3), .int (τ.2.2.1 i 1), .int (τ.2.2.1 i 2), .int (τ.2.2.1 i 3), va_rf ((t_R ρ i 4).map (fun j => t_A ρ j 0)), va_rf ((t_R ρ i 5).map (fun j => t_A ρ j 0)), va_rf ((t_W ρ i 6).map (fun _ => t_A ρ i 6)), va_rf ((t_W ρ i 7).map (fun _ => t_A ρ i 7)), .int (τ.2.2.1 i 8), .ref (t_A ρ i 1), .ref (t_A ρ i 2), .int (τ.2.2.1 i 11), .long (τ.2.2.2.1 i 12)]
def t_cell (ρ : tR) (τ : tS) (q : Nat × Nat) : va_E := match q.2 with
  | 0 => .inr (2, t_node ρ τ q.1)
  | 1 => .inl (1, t_len ρ q.1, .inr (.inl (τ.2.2.2.2 q.1 9)))
  | _ => .inl (1, t_len ρ q.1, .inr (.inl (τ.2.2.2.2 q.1 10)))
def t_tape (o : Nat) (τ : tS) : List Value := [.ref (o + 1), .int (τ.1 1), .long (τ.2.1 2), .int (τ.1 3)]
def wT (Λ : tQ) (ρ : tR) (M : mv_M) (τ : tS) : mv_M := (M.1, M.2.1, fun a => if a = Λ.1 then some (.inr (7, t_tape Λ.1 τ)) else match Λ.2 a with
  | some q => some (t_cell ρ τ q)
  | none => M.2.2 a)
abbrev wqT {α : Type} (Λ : tQ) (ρ : tR) (M : mv_M) : α × tS → α × mv_M := fun q => (q.1, wT Λ ρ M q.2)
abbrev wqR (Λ : tQ) (ρ : tR) (M : mv_M) : Option Nat × tS → Option Nat × mv_M := fun q => (q.1.map (fun j => t_A ρ j 0), wT Λ ρ M q.2)
def t_ok (Λ : tQ) (ρ : tR) (M : mv_M) : Prop :=
  (∀ i, i < t_n ρ → ∀ c, c < 3 → Λ.2 (t_A ρ i c) = some (i, c) ∧ t_A ρ i c ≠ Λ.1) ∧
  (∀ a q, Λ.2 a = some q → q.1 < t_n ρ ∧ q.2 < 3 ∧ a = t_A ρ q.1 q.2) ∧
  (Λ.2 (Λ.1 + 1) = none ∧ M.2.2 (Λ.1 + 1) = some (.inl (3, 50, .inr (.inr (.inr (.inr (fun j => if j < t_n ρ then some (t_A ρ j 0) else none))))))) ∧
  (∀ i, i < t_n ρ → Λ.2 (t_A ρ i 3) = none ∧ t_A ρ i 3 ≠ Λ.1 ∧ M.2.2 (t_A ρ i 3) = some (.inr (5, [.int (t_H ρ i 0), .int (t_H ρ i 1), .int (t_H ρ i 2), .int (t_H ρ i 3), .int (t_H ρ i 4)]))) ∧
  (∀ i, i < t_n ρ → ∀ f v, t_W ρ i f = some v → Λ.2 (t_A ρ i f) = none ∧ t_A ρ i f ≠ Λ.1 ∧ M.2.2 (t_A ρ i f) = some (.inr (9, [.int (v 0), .int (v 1), .int (v 2), .int (v 3), .int (v 4)]))) ∧
  (∀ i, i < t_n ρ → ∀ f j, t_R ρ i f = some j → j < t_n ρ)
section TW
variable {Λ : tQ} {ρ : tR} {M : mv_M} {τ : tS}
theorem wT_at (ok : t_ok Λ ρ M) {i c : Nat} (hi : i < t_n ρ) (hc : c < 3) : (wT Λ ρ M τ).2.2 (t_A ρ i c) = some (t_cell ρ τ (i, c)) := by
  obtain ⟨h1, h2⟩ := ok.1 i hi c hc
  show (if _ then _ else _) = _
  rw [if_neg h2, h1]
theorem wT_out {a : Nat} (h : Λ.2 a = none) (hn : a ≠ Λ.1) : (wT Λ ρ M τ).2.2 a = M.2.2 a := by
  show (if _ then _ else _) = _
  rw [if_neg hn, h]
theorem wT_tp : (wT Λ ρ M τ).2.2 Λ.1 = some (.inr (7, t_tape Λ.1 τ)) := by
  show (if _ then _ else _) = _
  rw [if_pos rfl]
theorem wT_set (ok : t_ok Λ ρ M) {i c : Nat} {τ' : tS} {x : va_E} (hi : i < t_n ρ) (hc : c < 3) (hx : t_cell ρ τ' (i, c) = x) (ho : ∀ q : Nat × Nat, q ≠ (i, c) → q.2 < 3 → t_cell ρ τ' q = t_cell ρ τ q) (ht : t_tape Λ.1 τ' = t_tape Λ.1 τ) : mj_set (wT Λ ρ M τ) (t_A ρ i c) x = wT Λ ρ M τ' := by
  have : va_up (wT Λ ρ M τ).2.2 (t_A ρ i c) (some x) = (wT Λ ρ M τ').2.2 := by
    funext a
    by_cases ha : a = t_A ρ i c
    · subst ha
      rw [va_up_self, wT_at ok hi hc, hx]
    · rw [va_up_ne _ _ ha]
      show (if _ then _ else _) = (if _ then _ else _)
      by_cases hb : a = Λ.1
      · rw [if_pos hb, if_pos hb, ht]
      · rw [if_neg hb, if_neg hb]
        cases hq : Λ.2 a with
        | none => rfl
        | some q =>
          obtain ⟨g1, g2, g3⟩ := ok.2.1 a q hq
          show some _ = some _
          rw [ho q (fun e => ha (by rw [g3, e])) g2]
  show (M.1, M.2.1, va_up (wT Λ ρ M τ).2.2 (t_A ρ i c) (some x)) = (M.1, M.2.1, (wT Λ ρ M τ').2.2)
  rw [this]
theorem wT_setT (ok : t_ok Λ ρ M) {τ' : tS} {x : va_E} (hx : .inr (7, t_tape Λ.1 τ') = x) (ho : ∀ q : Nat × Nat, t_cell ρ τ' q = t_cell ρ τ q) : mj_set (wT Λ ρ M τ) Λ.1 x = wT Λ ρ M τ' := by
  have : va_up (wT Λ ρ M τ).2.2 Λ.1 (some x) = (wT Λ ρ M τ').2.2 := by
    funext a
    by_cases hb : a = Λ.1
    · subst hb
      rw [va_up_self, wT_tp, hx]
    · rw [va_up_ne _ _ hb]
      show (if _ then _ else _) = (if _ then _ else _)
      rw [if_neg hb, if_neg hb]
      cases hq : Λ.2 a with
      | none => rfl
      | some q =>
        show some _ = some _
        rw [ho q]
  show (M.1, M.2.1, va_up (wT Λ ρ M τ).2.2 Λ.1 (some x)) = (M.1, M.2.1, (wT Λ ρ M τ').2.2)
  rw [this]

theorem tg_T_1 : mj_getI (wT Λ ρ M τ) Λ.1 7 1 = some (τ.1 1) := mj_getI_of wT_tp rfl
theorem tg_T_3 : mj_getI (wT Λ ρ M τ) Λ.1 7 3 = some (τ.1 3) := mj_getI_of wT_tp rfl
theorem tg_T_2 : mj_getL (wT Λ ρ M τ) Λ.1 7 2 = some (τ.2.1 2) := mj_getL_of wT_tp rfl
theorem tg_T_0 : mj_getR (wT Λ ρ M τ) Λ.1 7 0 = some (some (Λ.1 + 1)) := mj_getR_of (x := some (Λ.1 + 1)) wT_tp rfl
theorem to_T {β : Type} {A : Option β} : mj_ob (wT Λ ρ M τ) Λ.1 7 A = A := mj_ob_of wT_tp
theorem tg_N_1 (ok : t_ok Λ ρ M) {i : Nat} (hi : i < t_n ρ) : mj_getI (wT Λ ρ M τ) (t_A ρ i 0) 2 1 = some (τ.2.2.1 i 1) := mj_getI_of (wT_at (c := 0) ok hi (by decide)) rfl
theorem tg_N_2 (ok : t_ok Λ ρ M) {i : Nat} (hi : i < t_n ρ) : mj_getI (wT Λ ρ M τ) (t_A ρ i 0) 2 2 = some (τ.2.2.1 i 2) := mj_getI_of (wT_at (c := 0) ok hi (by decide)) rfl
theorem tg_N_3 (ok : t_ok Λ ρ M) {i : Nat} (hi : i < t_n ρ) : mj_getI (wT Λ ρ M τ) (t_A ρ i 0) 2 3 = some (τ.2.2.1 i 3) := mj_getI_of (wT_at (c := 0) ok hi (by decide)) rfl
theorem tg_N_8 (ok : t_ok Λ ρ M) {i : Nat} (hi : i < t_n ρ) : mj_getI (wT Λ ρ M τ) (t_A ρ i 0) 2 8 = some (τ.2.2.1 i 8) := mj_getI_of (wT_at (c := 0) ok hi (by decide)) rfl
theorem tg_N_11 (ok : t_ok Λ ρ M) {i : Nat} (hi : i < t_n ρ) : mj_getI (wT Λ ρ M τ) (t_A ρ i 0) 2 11 = some (τ.2.2.1 i 11) := mj_getI_of (wT_at (c := 0) ok hi (by decide)) rfl
theorem tg_N_12 (ok : t_ok Λ ρ M) {i : Nat} (hi : i < t_n ρ) : mj_getL (wT Λ ρ M τ) (t_A ρ i 0) 2 12 = some (τ.2.2.2.1 i 12) := mj_getL_of (wT_at (c := 0) ok hi (by decide)) rfl
theorem tg_N_0 (ok : t_ok Λ ρ M) {i : Nat} (hi : i < t_n ρ) : mj_getR (wT Λ ρ M τ) (t_A ρ i 0) 2 0 = some (some (t_A ρ i 3)) := mj_getR_of (x := some (t_A ρ i 3)) (wT_at (c := 0) ok hi (by decide)) rfl
theorem tg_N_4 (ok : t_ok Λ ρ M) {i : Nat} (hi : i < t_n ρ) : mj_getR (wT Λ ρ M τ) (t_A ρ i 0) 2 4 = some ((t_R ρ i 4).map (fun j => t_A ρ j 0)) := mj_getR_of (wT_at (c := 0) ok hi (by decide)) rfl
theorem tg_N_5 (ok : t_ok Λ ρ M) {i : Nat} (hi : i < t_n ρ) : mj_getR (wT Λ ρ M τ) (t_A ρ i 0) 2 5 = some ((t_R ρ i 5).map (fun j => t_A ρ j 0)) := mj_getR_of (wT_at (c := 0) ok hi (by decide)) rfl
theorem tg_N_6 (ok : t_ok Λ ρ M) {i : Nat} (hi : i < t_n ρ) : mj_getR (wT Λ ρ M τ) (t_A ρ i 0) 2 6 = some ((t_W ρ i 6).map (fun _ => t_A ρ i 6)) := mj_getR_of (wT_at (c := 0) ok hi (by decide)) rfl
theorem tg_N_7 (ok : t_ok Λ ρ M) {i : Nat} (hi : i < t_n ρ) : mj_getR (wT Λ ρ M τ) (t_A ρ i 0) 2 7 = some ((t_W ρ i 7).map (fun _ => t_A ρ i 7)) := mj_getR_of (wT_at (c := 0) ok hi (by decide)) rfl
theorem tg_N_9 (ok : t_ok Λ ρ M) {i : Nat} (hi : i < t_n ρ) : mj_getR (wT Λ ρ M τ) (t_A ρ i 0) 2 9 = some (some (t_A ρ i 1)) := mj_getR_of (x := some (t_A ρ i 1)) (wT_at (c := 0) ok hi (by decide)) rfl
theorem tg_N_10 (ok : t_ok Λ ρ M) {i : Nat} (hi : i < t_n ρ) : mj_getR (wT Λ ρ M τ) (t_A ρ i 0) 2 10 = some (some (t_A ρ i 2)) := mj_getR_of (x := some (t_A ρ i 2)) (wT_at (c := 0) ok hi (by decide)) rfl
theorem to_N {β : Type} {A : Option β} (ok : t_ok Λ ρ M) {i : Nat} (hi : i < t_n ρ) : mj_ob (wT Λ ρ M τ) (t_A ρ i 0) 2 A = A := mj_ob_of (wT_at (c := 0) ok hi (by decide))
theorem tg_S_0 (ok : t_ok Λ ρ M) {i : Nat} (hi : i < t_n ρ) : mj_getI (wT Λ ρ M τ) (t_A ρ i 3) 5 0 = some (t_H ρ i 0) := mj_getI_of ((wT_out (ok.2.2.2.1 i hi).1 (ok.2.2.2.1 i hi).2.1).trans (ok.2.2.2.1 i hi).2.2) rfl
theorem tg_S_1 (ok : t_ok Λ ρ M) {i : Nat} (hi : i < t_n ρ) : mj_getI (wT Λ ρ M τ) (t_A ρ i 3) 5 1 = some (t_H ρ i 1) := mj_getI_of ((wT_out (ok.2.2.2.1 i hi).1 (ok.2.2.2.1 i hi).2.1).trans (ok.2.2.2.1 i hi).2.2) rfl
theorem tg_S_2 (ok : t_ok Λ ρ M) {i : Nat} (hi : i < t_n ρ) : mj_getI (wT Λ ρ M τ) (t_A ρ i 3) 5 2 = some (t_H ρ i 2) := mj_getI_of ((wT_out (ok.2.2.2.1 i hi).1 (ok.2.2.2.1 i hi).2.1).trans (ok.2.2.2.1 i hi).2.2) rfl
theorem tg_S_3 (ok : t_ok Λ ρ M) {i : Nat} (hi : i < t_n ρ) : mj_getI (wT Λ ρ M τ) (t_A ρ i 3) 5 3 = some (t_H ρ i 3) := mj_getI_of ((wT_out (ok.2.2.2.1 i hi).1 (ok.2.2.2.1 i hi).2.1).trans (ok.2.2.2.1 i hi).2.2) rfl
theorem tg_S_4 (ok : t_ok Λ ρ M) {i : Nat} (hi : i < t_n ρ) : mj_getI (wT Λ ρ M τ) (t_A ρ i 3) 5 4 = some (t_H ρ i 4) := mj_getI_of ((wT_out (ok.2.2.2.1 i hi).1 (ok.2.2.2.1 i hi).2.1).trans (ok.2.2.2.1 i hi).2.2) rfl
theorem to_S {β : Type} {A : Option β} (ok : t_ok Λ ρ M) {i : Nat} (hi : i < t_n ρ) : mj_ob (wT Λ ρ M τ) (t_A ρ i 3) 5 A = A := mj_ob_of ((wT_out (ok.2.2.2.1 i hi).1 (ok.2.2.2.1 i hi).2.1).trans (ok.2.2.2.1 i hi).2.2)
theorem tg_V_0 (ok : t_ok Λ ρ M) {i : Nat} (hi : i < t_n ρ) {f : Nat} {v : Nat → Int32} (hv : t_W ρ i f = some v) : mj_getI (wT Λ ρ M τ) (t_A ρ i f) 9 0 = some (v 0) := mj_getI_of ((wT_out (ok.2.2.2.2.1 i hi f v hv).1 (ok.2.2.2.2.1 i hi f v hv).2.1).trans (ok.2.2.2.2.1 i hi f v hv).2.2) rfl
theorem tg_V_1 (ok : t_ok Λ ρ M) {i : Nat} (hi : i < t_n ρ) {f : Nat} {v : Nat → Int32} (hv : t_W ρ i f = some v) : mj_getI (wT Λ ρ M τ) (t_A ρ i f) 9 1 = some (v 1) := mj_getI_of ((wT_out (ok.2.2.2.2.1 i hi f v hv).1 (ok.2.2.2.2.1 i hi f v hv).2.1).trans (ok.2.2.2.2.1 i hi f v hv).2.2) rfl
theorem tg_V_2 (ok : t_ok Λ ρ M) {i : Nat} (hi : i < t_n ρ) {f : Nat} {v : Nat → Int32} (hv : t_W ρ i f = some v) : mj_getI (wT Λ ρ M τ) (t_A ρ i f) 9 2 = some (v 2) := mj_getI_of ((wT_out (ok.2.2.2.2.1 i hi f v hv).1 (ok.2.2.2.2.1 i hi f v hv).2.1).trans (ok.2.2.2.2.1 i hi f v hv).2.2) rfl
theorem tg_V_3 (ok : t_ok Λ ρ M) {i : Nat} (hi : i < t_n ρ) {f : Nat} {v : Nat → Int32} (hv : t_W ρ i f = some v) : mj_getI (wT Λ ρ M τ) (t_A ρ i f) 9 3 = some (v 3) := mj_getI_of ((wT_out (ok.2.2.2.2.1 i hi f v hv).1 (ok.2.2.2.2.1 i hi f v hv).2.1).trans (ok.2.2.2.2.1 i hi f v hv).2.2) rfl
theorem tg_V_4 (ok : t_ok Λ ρ M) {i : Nat} (hi : i < t_n ρ) {f : Nat} {v : Nat → Int32} (hv : t_W ρ i f = some v) : mj_getI (wT Λ ρ M τ) (t_A ρ i f) 9 4 = some (v 4) := mj_getI_of ((wT_out (ok.2.2.2.2.1 i hi f v hv).1 (ok.2.2.2.2.1 i hi f v hv).2.1).trans (ok.2.2.2.2.1 i hi f v hv).2.2) rfl
theorem to_V {β : Type} {A : Option β} (ok : t_ok Λ ρ M) {i : Nat} (hi : i < t_n ρ) {f : Nat} {v : Nat → Int32} (hv : t_W ρ i f = some v) : mj_ob (wT Λ ρ M τ) (t_A ρ i f) 9 A = A := mj_ob_of ((wT_out (ok.2.2.2.2.1 i hi f v hv).1 (ok.2.2.2.2.1 i hi f v hv).2.1).trans (ok.2.2.2.2.1 i hi f v hv).2.2)
theorem tl_9 (ok : t_ok Λ ρ M) {i : Nat} (hi : i < t_n ρ) (x : Int32) : mj_lld (wT Λ ρ M τ) (t_A ρ i 1) 1 x = mj_tabL (τ.2.2.2.2 i 9) (t_len ρ i) x := kw_lld (M := wT Λ ρ M τ) (wT_at (c := 1) ok hi (by decide))
theorem tn_9 (ok : t_ok Λ ρ M) {i : Nat} (hi : i < t_n ρ) : mj_len (wT Λ ρ M τ) (t_A ρ i 1) 1 = some (Int32.ofNat (t_len ρ i)) := mj_len_of (M := wT Λ ρ M τ) (wT_at (c := 1) ok hi (by decide))
theorem tx_9 (ok : t_ok Λ ρ M) {i : Nat} (hi : i < t_n ρ) (x : Int32) (v : Int64) : mj_lst (wT Λ ρ M τ) (t_A ρ i 1) 1 x v = if mj_in x (t_len ρ i) = true then some (wT Λ ρ M (tV τ i 9 x.toNatClampNeg v)) else none := by
  refine (kw_lst (M := wT Λ ρ M τ) (wT_at (c := 1) ok hi (by decide))).trans ?_
  refine congrArg (fun z => if mj_in x (t_len ρ i) = true then some z else none) (wT_set ok hi (by decide) ?_ (fun q hq h3 => ?_) rfl)
  · simp [t_cell, tV, va_up]
  · obtain ⟨q1, q2⟩ := q
    by_cases e : q1 = i
    · subst e
      match q2, h3 with
      | 0, _ => rfl
      | 1, _ => first | exact absurd rfl hq | simp [t_cell, tV, va_up]
      | 2, _ => first | exact absurd rfl hq | simp [t_cell, tV, va_up]
    · match q2, h3 with
      | 0, _ => rfl
      | 1, _ => simp [t_cell, tV, va_up, e]
      | 2, _ => simp [t_cell, tV, va_up, e]
theorem tl_10 (ok : t_ok Λ ρ M) {i : Nat} (hi : i < t_n ρ) (x : Int32) : mj_lld (wT Λ ρ M τ) (t_A ρ i 2) 1 x = mj_tabL (τ.2.2.2.2 i 10) (t_len ρ i) x := kw_lld (M := wT Λ ρ M τ) (wT_at (c := 2) ok hi (by decide))
theorem tn_10 (ok : t_ok Λ ρ M) {i : Nat} (hi : i < t_n ρ) : mj_len (wT Λ ρ M τ) (t_A ρ i 2) 1 = some (Int32.ofNat (t_len ρ i)) := mj_len_of (M := wT Λ ρ M τ) (wT_at (c := 2) ok hi (by decide))
theorem tx_10 (ok : t_ok Λ ρ M) {i : Nat} (hi : i < t_n ρ) (x : Int32) (v : Int64) : mj_lst (wT Λ ρ M τ) (t_A ρ i 2) 1 x v = if mj_in x (t_len ρ i) = true then some (wT Λ ρ M (tV τ i 10 x.toNatClampNeg v)) else none := by
  refine (kw_lst (M := wT Λ ρ M τ) (wT_at (c := 2) ok hi (by decide))).trans ?_
  refine congrArg (fun z => if mj_in x (t_len ρ i) = true then some z else none) (wT_set ok hi (by decide) ?_ (fun q hq h3 => ?_) rfl)
  · simp [t_cell, tV, va_up]
  · obtain ⟨q1, q2⟩ := q
    by_cases e : q1 = i
    · subst e
      match q2, h3 with
      | 0, _ => rfl
      | 1, _ => first | exact absurd rfl hq | simp [t_cell, tV, va_up]
      | 2, _ => first | exact absurd rfl hq | simp [t_cell, tV, va_up]
    · match q2, h3 with
      | 0, _ => rfl
      | 1, _ => simp [t_cell, tV, va_up, e]
      | 2, _ => simp [t_cell, tV, va_up, e]
def tk_node (n : Nat) (x : Int32) : Option (Option Nat) := if mj_in x 50 = true then some (if x.toNatClampNeg < n then some x.toNatClampNeg else none) else none
theorem tk_node_lt {n : Nat} {x : Int32} {r : Option Nat} (h : tk_node n x = some r) : ∀ j, r = some j → j < n := by
  intro j hj
  unfold tk_node at h
  split at h
  · cases h
    split at hj
    · cases hj; assumption
    · cases hj
  · cases h
theorem tl_nodes (ok : t_ok Λ ρ M) (hne : Λ.1 + 1 ≠ Λ.1 := by omega) (x : Int32) : mj_rld (wT Λ ρ M τ) (Λ.1 + 1) 3 x = (tk_node (t_n ρ) x).map (fun r => r.map (fun j => t_A ρ j 0)) := by
  have h := (wT_out (τ := τ) (ρ := ρ) (M := M) ok.2.2.1.1 hne).trans ok.2.2.1.2
  unfold mj_rld tk_node
  rw [mj_arr_of h]
  by_cases hx : mj_in x 50 = true
  · simp only [hx, if_true, Option.map_some]
    by_cases hl : x.toNatClampNeg < t_n ρ
    · simp [hl]
    · simp [hl]
  · simp [hx]
theorem tp_T_1 (ok : t_ok Λ ρ M) (v : Int32) : mj_put (wT Λ ρ M τ) Λ.1 7 1 (.int v) = some (wT Λ ρ M (tI τ 1 v)) :=
  (mj_put_of (M := wT Λ ρ M τ) (fs := t_tape Λ.1 τ) wT_tp (Nat.le_of_ble_eq_true rfl)).trans (congrArg some (wT_setT ok rfl (fun q => rfl)))
theorem tp_T_3 (ok : t_ok Λ ρ M) (v : Int32) : mj_put (wT Λ ρ M τ) Λ.1 7 3 (.int v) = some (wT Λ ρ M (tI τ 3 v)) :=
  (mj_put_of (M := wT Λ ρ M τ) (fs := t_tape Λ.1 τ) wT_tp (Nat.le_of_ble_eq_true rfl)).trans (congrArg some (wT_setT ok rfl (fun q => rfl)))
theorem tp_T_2 (ok : t_ok Λ ρ M) (v : Int64) : mj_put (wT Λ ρ M τ) Λ.1 7 2 (.long v) = some (wT Λ ρ M (tL τ 2 v)) :=
  (mj_put_of (M := wT Λ ρ M τ) (fs := t_tape Λ.1 τ) wT_tp (Nat.le_of_ble_eq_true rfl)).trans (congrArg some (wT_setT ok rfl (fun q => rfl)))
theorem tp_N_11 (ok : t_ok Λ ρ M) {i : Nat} (hi : i < t_n ρ) (v : Int32) : mj_put (wT Λ ρ M τ) (t_A ρ i 0) 2 11 (.int v) = some (wT Λ ρ M (tN τ i 11 v)) := by
  refine (mj_put_of (M := wT Λ ρ M τ) (fs := t_node ρ τ i) (wT_at (c := 0) ok hi (by decide)) (Nat.le_of_ble_eq_true rfl)).trans (congrArg some (wT_set ok hi (by decide) ?_ (fun q hq h3 => ?_) rfl))
  · simp [t_cell, t_node, tN, va_up, upd, vp_updL]
  · obtain ⟨q1, q2⟩ := q
    by_cases e : q1 = i
    · subst e
      match q2, h3 with
      | 0, _ => exact absurd rfl hq
      | 1, _ => rfl
      | 2, _ => rfl
    · match q2, h3 with
      | 0, _ => simp [t_cell, t_node, tN, va_up, e]
      | 1, _ => rfl
      | 2, _ => rfl
theorem tp_N_12 (ok : t_ok Λ ρ M) {i : Nat} (hi : i < t_n ρ) (v : Int64) : mj_put (wT Λ ρ M τ) (t_A ρ i 0) 2 12 (.long v) = some (wT Λ ρ M (tP τ i 12 v)) := by
  refine (mj_put_of (M := wT Λ ρ M τ) (fs := t_node ρ τ i) (wT_at (c := 0) ok hi (by decide)) (Nat.le_of_ble_eq_true rfl)).trans (congrArg some (wT_set ok hi (by decide) ?_ (fun q hq h3 => ?_) rfl))
  · simp [t_cell, t_node, tP, va_up, upd, vp_updL]
  · obtain ⟨q1, q2⟩ := q
    by_cases e : q1 = i
    · subst e
      match q2, h3 with
      | 0, _ => exact absurd rfl hq
      | 1, _ => rfl
      | 2, _ => rfl
    · match q2, h3 with
      | 0, _ => simp [t_cell, t_node, tP, va_up, e]
      | 1, _ => rfl
      | 2, _ => rfl
end TW
theorem km_bindR {γ α β : Type} {t : Option γ} {h : γ → Nat} {f : Nat → Option β} {g : γ → Option α} {w : α → β} (hh : ∀ j, t = some j → f (h j) = (g j).map w) : (t.map h).bind f = (t.bind g).map w := by
  cases t with
  | none => rfl
  | some j => exact hh j rfl
theorem km_optR {γ α β : Type} {t : Option γ} {h : γ → Nat} {A : Option β} {f : Nat → Option β} {A' : Option α} {g : γ → Option α} {w : α → β} (h0 : t = none → A = A'.map w) (hh : ∀ j, t = some j → f (h j) = (g j).map w) : mj_opt (t.map h) A f = (match t with | some j => g j | none => A').map w := by
  cases t with
  | none => exact h0 rfl
  | some j => exact hh j rfl
def tk_opt {γ α : Type} (t : Option γ) (A : Option α) (g : γ → Option α) : Option α := match t with
  | some j => g j
  | none => A
theorem km_optT {γ α β : Type} {t : Option γ} {h : γ → Nat} {A : Option β} {f : Nat → Option β} {A' : Option α} {g : γ → Option α} {w : α → β} (h0 : t = none → A = A'.map w) (hh : ∀ j, t = some j → f (h j) = (g j).map w) : mj_opt (t.map h) A f = (tk_opt t A' g).map w := by
  cases t with
  | none => exact h0 rfl
  | some j => exact hh j rfl
theorem km_bindN {γ α β : Type} {t : Option (Option γ)} {h : γ → Nat} {f : Option Nat → Option β} {g : Option γ → Option α} {w : α → β} (hh : ∀ r, t = some r → f (r.map h) = (g r).map w) : (t.map (fun r => r.map h)).bind f = (t.bind g).map w := by
  cases t with
  | none => rfl
  | some r => exact hh r rfl
theorem km_callR {β γ S : Type} {t : Option (Option Nat × S)} {wr : S → mv_M} {h : Nat → Nat} {f : Option Nat → mv_M → Option β} {g : Option Nat → S → Option γ} {w : γ → β} (hh : ∀ r s, t = some (r, s) → f (r.map h) (wr s) = (g r s).map w) : mj_call (t.map (fun q => (q.1.map h, wr q.2))) f = (kk_call t g).map w := by
  cases t with
  | none => rfl
  | some q => exact hh q.1 q.2 rfl
theorem km_zz {α β : Type} {x : Int32} {A : Option β} {A' : Option α} {w : α → β} (h : (x = 0 ∨ x = 1) → A = A'.map w) : mj_zz x A = (mj_zz x A').map w := by
  unfold mj_zz
  by_cases hx : x = 0 ∨ x = 1
  · rw [if_pos hx, if_pos hx]; exact h hx
  · rw [if_neg hx, if_neg hx]; rfl
theorem kk_callE {α β S : Type} {t : Option (α × S)} {f : α → S → Option β} {w : β} (h : kk_call t f = some w) : ∃ (r : α) (s : S), t = some (r, s) ∧ f r s = some w := by
  cases t with
  | none => cases h
  | some q => exact ⟨q.1, q.2, rfl, h⟩
theorem tk_nn {n : Nat} : ∀ j : Nat, (none : Option Nat) = some j → j < n := fun j h => by cases h
theorem tk_ns {i n : Nat} (h : i < n) : ∀ j : Nat, some i = some j → j < n := fun j e => by cases e; exact h
