/-! THE TAPE, 2: values; what the class reckons for one cell -/
abbrev tF : Type := Nat → Nat → Option Rat
abbrev gF (V : tF) : Prop := ∀ i c, fG (V i c)
def fsm (f : Nat → Option Rat) : Nat → Option Rat
  | 0 => some 0
  | k + 1 => fadd (fsm f k) (f k)
theorem fG_fsm (f : Nat → Option Rat) : ∀ k, fG (fsm f k)
  | 0 => fG_Z
  | k + 1 => fG_add _ _
def grt (f : Nat → Option Rat) : Nat → Nat
  | 0 => 0
  | k + 1 => if fab (f k) (f (grt f k)) then k else grt f k
theorem grt_lt (f : Nat → Option Rat) : ∀ k, 0 < k → grt f k < k
  | 0, h => absurd h (by omega)
  | 1, _ => by
    unfold grt
    split <;> exact Nat.zero_lt_one
  | k + 2, _ => by
    unfold grt
    split
    · omega
    · have := grt_lt f (k + 1) (by omega)
      omega
def wld (f : Nat → Option Rat) : Nat → Bool
  | 0 => false
  | k + 1 => wld f k || (f k).isNone
theorem wld_up (f : Nat → Option Rat) {k : Nat} : ∀ {t : Nat}, k ≤ t → wld f k = true → wld f t = true
  | 0, h, w => by
    have : k = 0 := by omega
    subst this
    exact w
  | t + 1, h, w => by
    by_cases e : k = t + 1
    · subst e
      exact w
    · unfold wld
      rw [wld_up f (by omega) w]
      rfl
def ev (o t : Nat) (f g : Nat → Option Rat) : Option Rat :=
  if o = 0 then fadd (f 0) (g 0) else if o = 1 then fadd (f 0) (fneg (g 0)) else if o = 2 then fmul (f 0) (g 0) else if o = 3 then fdiv (f 0) (g 0) else
  if o = 4 then fsm (fun k => fmul (f k) (g k)) t else if o = 5 then fsm f t else if o = 6 then fdiv (fsm f t) (fnat t) else
  if o = 7 then (if wld f t = true then none else f (grt f t)) else if o = 8 then f 0 else if o = 9 then f 0 else
  if o = 10 then fneg (f 0) else if o = 11 then (if pP (f 0) < 0 then some 0 else f 0) else if o = 12 then (if pP (f 0) < 0 then fneg (f 0) else f 0) else
  if o = 13 then fmul (f 0) (f 0) else if o = 14 then f 0 else fsm f t
theorem fG_ite {c : Prop} [Decidable c] {x y : Option Rat} (hx : fG x) (hy : fG y) : fG (if c then x else y) := by
  split
  · exact hx
  · exact hy
theorem fG_ev (o t : Nat) {f g : Nat → Option Rat} (hf : ∀ k, fG (f k)) (hg : ∀ k, fG (g k)) : fG (ev o t f g) := by
  unfold ev
  repeat' first | exact fG_add _ _ | exact fG_mul _ _ | exact fG_div _ _ | exact fG_fsm _ _ | exact fG_none | exact hf _ | exact fG_neg (hf _) | exact fG_Z | refine fG_ite ?_ ?_
def oI (o v : Nat) : Int32 := if o = 16 then -2 else nI v
def cSt (X : tX) (ρ : tR) (τ : tS) : Prop := t_n ρ = x_n X ∧ τ.1 1 = nI (x_n X) ∧ ∀ i, i < x_n X →
  (t_H ρ i 0 = nI (x_s X i) ∧ t_H ρ i 1 = nI (x_P X i 0) ∧ t_H ρ i 2 = nI (x_P X i 1) ∧ t_H ρ i 3 = nI (x_P X i 2) ∧ t_H ρ i 4 = nI (x_c X i)) ∧
  (τ.2.2.1 i 1 = oI (x_o X i) (x_o X i) ∧ τ.2.2.1 i 2 = oI (x_o X i) (x_a X i) ∧ τ.2.2.1 i 3 = oI (x_o X i) (x_b X i)) ∧
  (x_o X i = 16 → t_R ρ i 4 = none) ∧
  (x_o X i < 16 → t_R ρ i 4 = some (x_a X i) ∧ t_W ρ i 6 = some (fun c => nI (w_1 (x_o X i) (x_b X i) (x_s X (x_a X i)) (x_P X (x_a X i)) c)) ∧ τ.2.2.1 i 8 = nI (x_t X i)) ∧
  (x_o X i < 5 → t_R ρ i 5 = some (x_b X i) ∧ t_W ρ i 7 = some (fun c => nI (w_2 (x_o X i) (x_P X (x_b X i)) c))) ∧
  (5 ≤ x_o X i → t_R ρ i 5 = none ∧ t_W ρ i 7 = none)
/-- node i holds the values V -/
def vC (X : tX) (V : tF) (τ : tS) (i : Nat) : Prop := ∀ c, c < x_c X i → τ.2.2.2.2 i 9 c = en (V i c)
theorem cS_len {X : tX} {ρ : tR} {τ : tS} (h : cSt X ρ τ) (ok : x_ok X) {i : Nat} (hi : i < x_n X) : t_len ρ i = x_c X i := by
  have := (xc_b ok hi).2
  show (t_H ρ i 4).toNatClampNeg = _
  rw [(h.2.2 i hi).1.2.2.2.2, nI_clamp (by omega)]
abbrev fA (X : tX) (V : tF) (i r : Nat) : Nat → Option Rat := fun k => V (x_a X i) (x_u X i r k)
abbrev fB (X : tX) (V : tF) (i r : Nat) : Nat → Option Rat := fun k => V (x_b X i) (x_v X i r k)
theorem cA_ix (X : tX) (i r k : Nat) : nI (x_u X i r 0) + nI k * nI (w_1 (x_o X i) (x_b X i) (x_s X (x_a X i)) (x_P X (x_a X i)) 4) = nI (x_u X i r k) := by
  rw [nI_mul, nI_add]
  congr 1
  unfold x_u w_at
  omega
theorem cB_ix (X : tX) (i r k : Nat) : nI (x_v X i r 0) + nI k * nI (w_2 (x_o X i) (x_P X (x_b X i)) 4) = nI (x_v X i r k) := by
  rw [nI_mul, nI_add]
  congr 1
  unfold x_v w_at
  omega
theorem cA_rd {X : tX} {ρ : tR} {τ : tS} {V : tF} (h : cSt X ρ τ) (ok : x_ok X) {i : Nat} (hi : i < x_n X) {r : Nat} (hr : r < x_c X i) (hv : ∀ j, j < i → vC X V τ j) (ho : x_o X i < 16) {k : Nat} (hk : k < x_t X i) : mj_tabL (τ.2.2.2.2 (x_a X i) 9) (t_len ρ (x_a X i)) (nI (x_u X i r k)) = some (en (V (x_a X i) (x_u X i r k))) := by
  obtain ⟨g1, g2, g3, g4⟩ := x_lt ok hi ho
  have l := xu_lt ok hi ho hr hk
  have b := (xc_b ok g2).2
  rw [cS_len h ok g2, mj_tabL_nI l (by omega), hv _ g1 _ l]
theorem cB_rd {X : tX} {ρ : tR} {τ : tS} {V : tF} (h : cSt X ρ τ) (ok : x_ok X) {i : Nat} (hi : i < x_n X) {r : Nat} (hr : r < x_c X i) (hv : ∀ j, j < i → vC X V τ j) (ho : x_o X i < 5) {k : Nat} (hk : k < x_t X i) : mj_tabL (τ.2.2.2.2 (x_b X i) 9) (t_len ρ (x_b X i)) (nI (x_v X i r k)) = some (en (V (x_b X i) (x_v X i r k))) := by
  obtain ⟨g1, g2, g3⟩ := x_lt2 ok hi ho
  have l := xv_lt ok hi ho hr hk
  have b := (xc_b ok g2).2
  rw [cS_len h ok g2, mj_tabL_nI l (by omega), hv _ g1 _ l]
theorem cn_row {X : tX} {ρ : tR} {τ : tS} {V : tF} (h : cSt X ρ τ) (ok : x_ok X) {i : Nat} (hi : i < x_n X) {r : Nat} (hr : r < x_c X i) (hv : ∀ j, j < i → vC X V τ j) {N : Nat} (hN : 300 ≤ N) (gV : gF V) (ho : x_o X i < 16) : kf_No_sumOfRow N ρ τ i (nI (x_u X i r 0)) = some (en (fsm (fA X V i r) (x_t X i)), τ) := by
  have tb := xt_b ok hi ho
  obtain ⟨r1, r2, r3⟩ := (h.2.2 i hi).2.2.2.1 ho
  have lp : ∀ d k fu, d + k = x_t X i → d < fu → kb_No_sumOfRow_5 N ρ fu τ i (nI (x_u X i r 0)) (en (fsm (fA X V i r) k)) (nI k) = some (en (fsm (fA X V i r) (x_t X i)), τ) := by
    intro d
    induction d with
    | zero =>
      intro k fu hd hf
      obtain ⟨f', rfl⟩ : ∃ f', fu = f' + 1 := ⟨fu - 1, by omega⟩
      have : k = x_t X i := by omega
      subst this
      rw [kb_No_sumOfRow_5, r3, if_pos (Int32.le_refl _)]
    | succ d ih =>
      intro k fu hd hf
      obtain ⟨f', rfl⟩ : ∃ f', fu = f' + 1 := ⟨fu - 1, by omega⟩
      rw [kb_No_sumOfRow_5, r3, if_neg (by rw [nI_leI (by omega) (by omega)]; omega), r1, Option.bind_some, r2, Option.bind_some, cA_ix X i r k, cA_rd h ok hi hr hv ho (by omega), Option.bind_some, kf_add (by omega) (fG_fsm _ _) (gV _ _), Option.bind_some, nI_1]
      exact ih (k + 1) f' (by omega) (by omega)
  have := lp (x_t X i) 0 N (by omega) (by omega)
  exact this
theorem cn_prod {X : tX} {ρ : tR} {τ : tS} {V : tF} (h : cSt X ρ τ) (ok : x_ok X) {i : Nat} (hi : i < x_n X) {r : Nat} (hr : r < x_c X i) (hv : ∀ j, j < i → vC X V τ j) {N : Nat} (hN : 300 ≤ N) (gV : gF V) (ho : x_o X i = 4) : kf_No_sumOfProducts N ρ τ i (nI (x_u X i r 0)) (nI (x_v X i r 0)) = some (en (fsm (fun k => fmul (fA X V i r k) (fB X V i r k)) (x_t X i)), τ) := by
  have tb := xt_b ok hi (by omega)
  obtain ⟨r1, r2, r3⟩ := (h.2.2 i hi).2.2.2.1 (by omega)
  obtain ⟨r4, r5⟩ := (h.2.2 i hi).2.2.2.2.1 (by omega)
  have lp : ∀ d k fu, d + k = x_t X i → d < fu → kb_No_sumOfProducts_21 N ρ fu τ i (nI (x_u X i r 0)) (nI (x_v X i r 0)) (en (fsm (fun k => fmul (fA X V i r k) (fB X V i r k)) k)) (nI k) = some (en (fsm (fun k => fmul (fA X V i r k) (fB X V i r k)) (x_t X i)), τ) := by
    intro d
    induction d with
    | zero =>
      intro k fu hd hf
      obtain ⟨f', rfl⟩ : ∃ f', fu = f' + 1 := ⟨fu - 1, by omega⟩
      have : k = x_t X i := by omega
      subst this
      rw [kb_No_sumOfProducts_21, r3, if_pos (Int32.le_refl _)]
    | succ d ih =>
      intro k fu hd hf
      obtain ⟨f', rfl⟩ : ∃ f', fu = f' + 1 := ⟨fu - 1, by omega⟩
      rw [kb_No_sumOfProducts_21, r3, if_neg (by rw [nI_leI (by omega) (by omega)]; omega), r1, Option.bind_some, r2, Option.bind_some, cA_ix X i r k, cA_rd h ok hi hr hv (by omega) (by omega), Option.bind_some, r4, Option.bind_some, r5, Option.bind_some, cB_ix X i r k, cB_rd h ok hi hr hv (by omega) (by omega), Option.bind_some, kf_times (by omega) (gV _ _) (gV _ _), Option.bind_some, kf_add (by omega) (fG_fsm _ _) (fG_mul _ _), Option.bind_some, nI_1]
      exact ih (k + 1) f' (by omega) (by omega)
  unfold kf_No_sumOfProducts kb_No_sumOfProducts_0
  rw [r4, r5]
  exact lp (x_t X i) 0 N (by omega) (by omega)
theorem cn_great {X : tX} {ρ : tR} {τ : tS} {V : tF} (h : cSt X ρ τ) (ok : x_ok X) {i : Nat} (hi : i < x_n X) {r : Nat} (hr : r < x_c X i) (hv : ∀ j, j < i → vC X V τ j) {N : Nat} (hN : 300 ≤ N) (gV : gF V) (ho : x_o X i < 16) : kf_No_greatestOfRow N ρ τ i (nI (x_u X i r 0)) = some (if wld (fA X V i r) (x_t X i) = true then -1 else nI (x_u X i r (grt (fA X V i r) (x_t X i))), τ) := by
  have tb := xt_b ok hi ho
  obtain ⟨r1, r2, r3⟩ := (h.2.2 i hi).2.2.2.1 ho
  have lp : ∀ d k fu, d + k = x_t X i → d < fu → wld (fA X V i r) k = false → kb_No_greatestOfRow_4 N ρ fu τ i (nI (x_u X i r 0)) (nI (x_u X i r (grt (fA X V i r) k))) (nI k) = some (if wld (fA X V i r) (x_t X i) = true then -1 else nI (x_u X i r (grt (fA X V i r) (x_t X i))), τ) := by
    intro d
    induction d with
    | zero =>
      intro k fu hd hf hw
      obtain ⟨f', rfl⟩ : ∃ f', fu = f' + 1 := ⟨fu - 1, by omega⟩
      have : k = x_t X i := by omega
      subst this
      rw [kb_No_greatestOfRow_4, r3, if_pos (Int32.le_refl _), hw]
      rfl
    | succ d ih =>
      intro k fu hd hf hw
      obtain ⟨f', rfl⟩ : ∃ f', fu = f' + 1 := ⟨fu - 1, by omega⟩
      have hg : grt (fA X V i r) k < x_t X i := by
        by_cases k0 : k = 0
        · subst k0
          exact Nat.lt_of_lt_of_le Nat.zero_lt_one tb.1
        · have := grt_lt (fA X V i r) k (by omega)
          omega
      rw [kb_No_greatestOfRow_4, r3, if_neg (by rw [nI_leI (by omega) (by omega)]; omega), r2, Option.bind_some, r1, Option.bind_some, cA_ix X i r k, cA_rd h ok hi hr hv ho (by omega), Option.bind_some]
      by_cases hz : fA X V i r k = none
      · have z : lg_cmp (en (V (x_a X i) (x_u X i r k))) 0 = 0 := (lg_en (gV _ _) fG_none).mpr hz
        have w1 : wld (fA X V i r) (k + 1) = true := by
          unfold wld
          rw [hz, Option.isNone_none, Bool.or_true]
        rw [if_pos z, wld_up _ (show k + 1 ≤ x_t X i by omega) w1]
        rfl
      · have z : ¬ lg_cmp (en (V (x_a X i) (x_u X i r k))) 0 = 0 := fun q => hz ((lg_en (gV _ _) fG_none).mp q)
        have w1 : wld (fA X V i r) (k + 1) = false := by
          unfold wld
          rw [hw, Bool.false_or]
          cases hq : fA X V i r k with
          | none => exact absurd hq hz
          | some _ => rfl
        rw [if_neg z, Option.bind_some, cA_rd h ok hi hr hv ho (show k < x_t X i by omega), Option.bind_some, Option.bind_some, cA_rd h ok hi hr hv ho hg, Option.bind_some, kf_compare N (gV _ _) (gV _ _), Option.bind_some]
        have gs : grt (fA X V i r) (k + 1) = if fab (fA X V i r k) (fA X V i r (grt (fA X V i r) k)) then k else grt (fA X V i r) k := rfl
        have := ih (k + 1) f' (by omega) (by omega) w1
        unfold kb_No_greatestOfRow_70
        rw [nI_1]
        by_cases hb : fab (fA X V i r k) (fA X V i r (grt (fA X V i r) k))
        · rw [gs, if_pos hb] at this
          rw [if_pos hb, if_neg (show ¬ (1 : Int32) ≤ 0 by decide)]
          exact this
        · rw [gs, if_neg hb] at this
          rw [if_neg hb]
          by_cases hc : fab (fA X V i r (grt (fA X V i r) k)) (fA X V i r k)
          · rw [if_pos hc, if_pos (show (-1 : Int32) ≤ 0 by decide)]
            exact this
          · rw [if_neg hc, if_pos (show (0 : Int32) ≤ 0 by decide)]
            exact this
  exact lp (x_t X i) 0 N (by omega) (by omega) rfl
theorem cS_op {X : tX} {ρ : tR} {τ : tS} (h : cSt X ρ τ) {i : Nat} (hi : i < x_n X) (ho : x_o X i < 16) : τ.2.2.1 i 1 = nI (x_o X i) := by
  rw [(h.2.2 i hi).2.1.1]
  exact if_neg (by omega)
theorem o_16 {o : Nat} (h : o < 16) : o = 0 ∨ o = 1 ∨ o = 2 ∨ o = 3 ∨ o = 4 ∨ o = 5 ∨ o = 6 ∨ o = 7 ∨ o = 8 ∨ o = 9 ∨ o = 10 ∨ o = 11 ∨ o = 12 ∨ o = 13 ∨ o = 14 ∨ o = 15 := by omega
theorem kf_sgn (N : Nat) {x : Option Rat} (hx : fG x) {β : Type} (f : Int32 → Option β) {A B : Option β} (hf : ∀ s, f s = if 0 ≤ s then A else B) : (kf_Fr_sign N (en x)).bind f = if pP x < 0 then B else A := by
  rw [kf_sign N hx, Option.bind_some, hf]
  unfold fsg
  by_cases h1 : 0 < pP x
  · rw [if_pos h1, if_pos (show (0 : Int32) ≤ 1 by decide), if_neg (by omega)]
  · rw [if_neg h1]
    by_cases h2 : pP x < 0
    · rw [if_pos h2, if_pos h2, if_neg (by decide)]
    · rw [if_neg h2, if_neg h2, if_pos (by decide)]
theorem cn_cell {X : tX} {ρ : tR} {τ : tS} {V : tF} (h : cSt X ρ τ) (ok : x_ok X) {i : Nat} (hi : i < x_n X) {r : Nat} (hr : r < x_c X i) (hv : ∀ j, j < i → vC X V τ j) {N : Nat} (hN : 300 ≤ N) (gV : gF V) (ho : x_o X i < 16) : kf_No_reckonCell N ρ τ i (nI (x_u X i r 0)) (if x_o X i < 5 then nI (x_v X i r 0) else 0) = some (en (ev (x_o X i) (x_t X i) (fA X V i r) (fB X V i r)), τ) := by
  have tb := xt_b ok hi ho
  obtain ⟨r1, r2, r3⟩ := (h.2.2 i hi).2.2.2.1 ho
  have op := cS_op h hi ho
  have a0 := cA_rd h ok hi hr hv ho (k := 0) (by omega)
  have row := cn_row h ok hi hr hv hN gV ho
  have gre := cn_great h ok hi hr hv hN gV ho
  have gA : ∀ k, fG (fA X V i r k) := fun k => gV _ _
  have gB : ∀ k, fG (fB X V i r k) := fun k => gV _ _
  unfold kf_No_reckonCell kb_No_reckonCell_0
  rw [r1, Option.bind_some, a0, Option.bind_some]
  by_cases h5 : x_o X i < 5
  · obtain ⟨r4, r5⟩ := (h.2.2 i hi).2.2.2.2.1 h5
    have b0 := cB_rd h ok hi hr hv h5 (k := 0) (by omega)
    rw [if_pos h5, r4]
    unfold tk_opt
    simp only []
    rw [Option.bind_some, b0, Option.bind_some]
    unfold kb_No_reckonCell_30
    rw [op]
    obtain e | e | e | e | e : x_o X i = 0 ∨ x_o X i = 1 ∨ x_o X i = 2 ∨ x_o X i = 3 ∨ x_o X i = 4 := by omega
    · rw [e, if_pos (by decide), kf_add (by omega) (gV _ _) (gV _ _)]
      rfl
    · rw [e, if_neg (by decide), if_pos (by decide), kf_minus N (gV _ _), Option.bind_some, kf_add (by omega) (gV _ _) (fG_neg (gV _ _))]
      rfl
    · rw [e, if_neg (by decide), if_neg (by decide), if_pos (by decide), kf_times (by omega) (gV _ _) (gV _ _)]
      rfl
    · rw [e, if_neg (by decide), if_neg (by decide), if_neg (by decide), if_pos (by decide), kf_inverse N (gV _ _), Option.bind_some, kf_times (by omega) (gV _ _) (fG_inv (gV _ _)), ← fdiv_inv]
      rfl
    · rw [cn_prod h ok hi hr hv hN gV e, e, if_neg (by decide), if_neg (by decide), if_neg (by decide), if_neg (by decide), if_pos (by decide)]
      rfl
  · obtain ⟨r4, r5⟩ := (h.2.2 i hi).2.2.2.2.2 (by omega)
    rw [if_neg h5, r4]
    unfold tk_opt
    simp only []
    unfold kb_No_reckonCell_30
    rw [op]
    obtain e | e | e | e | e | e | e | e | e | e | e : x_o X i = 5 ∨ x_o X i = 6 ∨ x_o X i = 7 ∨ x_o X i = 8 ∨ x_o X i = 9 ∨ x_o X i = 10 ∨ x_o X i = 11 ∨ x_o X i = 12 ∨ x_o X i = 13 ∨ x_o X i = 14 ∨ x_o X i = 15 := by omega
    · rw [row, e, if_neg (by decide), if_neg (by decide), if_neg (by decide), if_neg (by decide), if_neg (by decide), if_pos (by decide)]
      rfl
    · rw [row, e, if_neg (by decide), if_neg (by decide), if_neg (by decide), if_neg (by decide), if_neg (by decide), if_neg (by decide), if_pos (by decide), kk_some, r3, kf_whole N (by omega), Option.bind_some, kf_inverse N (fnat_s (by omega)).1, Option.bind_some, kf_times (by omega) (fG_fsm _ _) (fG_inv (fnat_s (by omega)).1), ← fdiv_inv]
      rfl
    · rw [gre, e, if_neg (by decide), if_neg (by decide), if_neg (by decide), if_neg (by decide), if_neg (by decide), if_neg (by decide), if_neg (by decide), if_pos (by decide), kk_some]
      have ee : ev 7 (x_t X i) (fA X V i r) (fB X V i r) = if wld (fA X V i r) (x_t X i) = true then none else fA X V i r (grt (fA X V i r) (x_t X i)) := rfl
      rw [ee]
      by_cases hw : wld (fA X V i r) (x_t X i) = true
      · rw [if_pos hw, if_pos hw, if_neg (by decide)]
        rfl
      · have gl := grt_lt (fA X V i r) (x_t X i) (by omega)
        have xl := xu_lt ok hi ho hr gl
        have := (xc_b ok (x_lt ok hi ho).2.1).2
        rw [if_neg hw, if_neg hw, if_pos (nI_pos' (by omega)), r1, Option.bind_some, cA_rd h ok hi hr hv ho gl]
        rfl
    · rw [e, if_neg (by decide), if_neg (by decide), if_neg (by decide), if_neg (by decide), if_neg (by decide), if_neg (by decide), if_neg (by decide), if_neg (by decide), if_pos (by decide)]
      rfl
    · rw [e, if_neg (by decide), if_neg (by decide), if_neg (by decide), if_neg (by decide), if_neg (by decide), if_neg (by decide), if_neg (by decide), if_neg (by decide), if_neg (by decide), if_pos (by decide)]
      rfl
    · rw [e, if_neg (by decide), if_neg (by decide), if_neg (by decide), if_neg (by decide), if_neg (by decide), if_neg (by decide), if_neg (by decide), if_neg (by decide), if_neg (by decide), if_neg (by decide), if_pos (by decide), kf_minus N (gV _ _)]
      rfl
    · rw [e, if_neg (by decide), if_neg (by decide), if_neg (by decide), if_neg (by decide), if_neg (by decide), if_neg (by decide), if_neg (by decide), if_neg (by decide), if_neg (by decide), if_neg (by decide), if_neg (by decide), if_pos (by decide), kf_sgn N (gV _ _) _ (fun s => rfl)]
      have ee : ev 11 (x_t X i) (fA X V i r) (fB X V i r) = if pP (fA X V i r 0) < 0 then some 0 else fA X V i r 0 := rfl
      rw [ee]
      by_cases hp : pP (V (x_a X i) (x_u X i r 0)) < 0
      · rw [if_pos hp, if_pos hp]
        rfl
      · rw [if_neg hp, if_neg hp]
        rfl
    · rw [e, if_neg (by decide), if_neg (by decide), if_neg (by decide), if_neg (by decide), if_neg (by decide), if_neg (by decide), if_neg (by decide), if_neg (by decide), if_neg (by decide), if_neg (by decide), if_neg (by decide), if_neg (by decide), if_pos (by decide), kf_sgn N (gV _ _) _ (fun s => rfl)]
      have ee : ev 12 (x_t X i) (fA X V i r) (fB X V i r) = if pP (fA X V i r 0) < 0 then fneg (fA X V i r 0) else fA X V i r 0 := rfl
      rw [ee]
      by_cases hp : pP (V (x_a X i) (x_u X i r 0)) < 0
      · rw [if_pos hp, if_pos hp, kf_minus N (gV _ _)]
        rfl
      · rw [if_neg hp, if_neg hp]
        rfl
    · rw [e, if_neg (by decide), if_neg (by decide), if_neg (by decide), if_neg (by decide), if_neg (by decide), if_neg (by decide), if_neg (by decide), if_neg (by decide), if_neg (by decide), if_neg (by decide), if_neg (by decide), if_neg (by decide), if_neg (by decide), if_pos (by decide), kf_times (by omega) (gV _ _) (gV _ _)]
      rfl
    · rw [e, if_neg (by decide), if_neg (by decide), if_neg (by decide), if_neg (by decide), if_neg (by decide), if_neg (by decide), if_neg (by decide), if_neg (by decide), if_neg (by decide), if_neg (by decide), if_neg (by decide), if_neg (by decide), if_neg (by decide), if_neg (by decide), if_pos (by decide)]
      rfl
    · rw [row, e, if_neg (by decide), if_neg (by decide), if_neg (by decide), if_neg (by decide), if_neg (by decide), if_neg (by decide), if_neg (by decide), if_neg (by decide), if_neg (by decide), if_neg (by decide), if_neg (by decide), if_neg (by decide), if_neg (by decide), if_neg (by decide), if_neg (by decide), if_pos (by decide)]
      rfl
