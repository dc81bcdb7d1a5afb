/-! THE TAPE, 8: the reference's nodes, and where it finds the cells of an act -/
theorem nI_div {a b : Nat} (hb : 1 ≤ b) (ha : a < 2 ^ 31) (hb2 : b < 2 ^ 31 - 1) : nI a / nI b = nI (a / b) ∧ nI a - nI a / nI b * nI b = nI (a % b) := by
  have e : nI a / nI b = nI (a / b) := by
    have l : a / b ≤ a := Nat.div_le_self _ _
    have ne : nI b ≠ -1 := by
      intro q
      have := congrArg Int32.toInt q
      rw [nI_toInt (by omega), show (-1 : Int32).toInt = -1 from by decide] at this
      omega
    apply Int32.toInt_inj.mp
    rw [Int32.toInt_div_of_ne_right _ _ ne, nI_toInt (by omega), nI_toInt (by omega), nI_toInt (by omega)]
    exact tdiv_nat a b
  refine ⟨e, ?_⟩
  have m := Nat.div_add_mod' a b
  rw [e, nI_mul, nI_sub (by omega)]
  congr 1
  omega
def rSt (X : tX) (σ : kS) : Prop := σ.1 2 = nI (x_n X) ∧ ∀ i, i < x_n X → σ.2.2.1 3 i = oI (x_o X i) (x_o X i) ∧ σ.2.2.1 4 i = oI (x_o X i) (x_a X i) ∧ σ.2.2.1 5 i = oI (x_o X i) (x_b X i) ∧ σ.2.2.1 6 i = nI (x_s X i) ∧ ∀ k, k < x_s X i → σ.2.2.1 7 (3 * i + k) = nI (x_P X i (3 - x_s X i + k))
theorem rSt_fr {X : tX} {σ s : kS} {I L A B : List Nat} (h : kfr I L A B σ s) (h1 : 2 ∉ I) (h2 : 3 ∉ A) (h3 : 4 ∉ A) (h4 : 5 ∉ A) (h5 : 6 ∉ A) (h6 : 7 ∉ A) (g : rSt X σ) : rSt X s := by
  refine ⟨(h.1 2 h1).trans g.1, fun i hi => ?_⟩
  rw [h.2.2.1 3 h2, h.2.2.1 4 h3, h.2.2.1 5 h4, h.2.2.1 6 h5, h.2.2.1 7 h6]
  exact g.2 i hi
theorem rn_node {X : tX} {σ : kS} (h : rSt X σ) (ok : x_ok X) (N : Nat) (v : Int32) : kf_PM_isNode N σ v = some (bI (0 ≤ v.toInt ∧ v.toInt ≤ (x_n X : Int) - 1), σ) := by
  have hn := ok.1
  unfold kf_PM_isNode kb_PM_isNode_0
  rw [h.1, nI_m1 (by omega), show (0 : Int64) = zL 0 from rfl, pm_isIn N v rg_0 ⟨by omega, by omega⟩, Option.bind_some, if_pos (bI_ok _)]
theorem rn_in {X : tX} {σ : kS} (h : rSt X σ) (ok : x_ok X) (N : Nat) {i : Nat} (hi : i < x_n X) : kf_PM_isNode N σ (nI i) = some (1, σ) := by
  have hn := ok.1
  rw [rn_node h ok, bI_t]
  rw [nI_toInt (by omega)]
  omega
theorem rn_out {X : tX} {σ : kS} (h : rSt X σ) (ok : x_ok X) (N : Nat) {v : Int32} (hv : ¬ (0 ≤ v.toInt ∧ v.toInt ≤ (x_n X : Int) - 1)) : kf_PM_isNode N σ v = some (0, σ) := by
  rw [rn_node h ok, bI_f hv]
theorem n3 (i k : Nat) : (3 : Int32) * nI i + nI k = nI (3 * i + k) := by
  rw [show (3 : Int32) = nI 3 from rfl, nI_mul, nI_add]
theorem n64 (i k : Nat) : (64 : Int32) * nI i + nI k = nI (64 * i + k) := by
  rw [show (64 : Int32) = nI 64 from rfl, nI_mul, nI_add]
def pre (P : Nat → Nat) : Nat → Nat
  | 0 => 1
  | j + 1 => pre P j * P j
theorem pre_3 (P : Nat → Nat) : pre P 3 = c3 P := by
  show 1 * P 0 * P 1 * P 2 = P 0 * P 1 * P 2
  rw [Nat.one_mul]
theorem pre_1 {P : Nat → Nat} {s : Nat} (h : ∀ k, k + s < 3 → P k = 1) : ∀ j, j + s ≤ 3 → pre P j = 1
  | 0, _ => rfl
  | j + 1, hj => by
    show pre P j * P j = 1
    rw [pre_1 h j (by omega), h j (by omega)]
theorem rn_cells {X : tX} {σ : kS} (h : rSt X σ) (ok : x_ok X) {N : Nat} (hN : 300 ≤ N) {i : Nat} (hi : i < x_n X) : kf_PM_cells N σ (nI i) = some (nI (x_c X i), σ) := by
  have hn := ok.1
  have sh := (ok.2 i hi).2.1
  have s3 := sh.1
  obtain ⟨q1, q2, q3, q4, q5⟩ := h.2 i hi
  have lp : ∀ d k fu, d + k = x_s X i → d < fu → kb_PM_cells_4 N fu σ (nI i) (nI (pre (x_P X i) (3 - x_s X i + k))) (nI k) = some (nI (x_c X i), σ) := by
    intro d
    induction d with
    | zero =>
      intro k fu hd hf
      obtain ⟨f', rfl⟩ : ∃ f', fu = f' + 1 := ⟨fu - 1, by omega⟩
      have : k = x_s X i := by omega
      subst this
      rw [kb_PM_cells_4, mj_tab_nI (by omega) (by omega), Option.bind_some, q4, if_pos (Int32.le_refl _), show 3 - x_s X i + x_s X i = 3 by omega, pre_3]
      rfl
    | succ d ih =>
      intro k fu hd hf
      obtain ⟨f', rfl⟩ : ∃ f', fu = f' + 1 := ⟨fu - 1, by omega⟩
      rw [kb_PM_cells_4, mj_tab_nI (by omega) (by omega), Option.bind_some, q4, if_neg (by rw [nI_leI (by omega) (by omega)]; omega), n3, mj_tab_nI (by omega) (by omega), Option.bind_some, q5 k (by omega), nI_mul, nI_1]
      exact ih (k + 1) f' (by omega) (by omega)
  have := lp (x_s X i) 0 N (by omega) (by omega)
  rw [pre_1 sh.2.2.1 (3 - x_s X i + 0) (by omega)] at this
  exact this
theorem rn_side {X : tX} {σ : kS} (h : rSt X σ) (ok : x_ok X) (N : Nat) {i k : Nat} (hi : i < x_n X) (hk : k < 100) : kf_PM_sideOf N σ (nI i) (nI k) = some (if k < x_s X i then nI (x_P X i (3 - x_s X i + k)) else 0, σ) := by
  have hn := ok.1
  have s3 := (ok.2 i hi).2.1.1
  obtain ⟨q1, q2, q3, q4, q5⟩ := h.2 i hi
  unfold kf_PM_sideOf kb_PM_sideOf_0 kb_PM_sideOf_24
  rw [mj_tab_nI (by omega) (by omega), Option.bind_some, q4]
  by_cases e : k < x_s X i
  · rw [if_neg (by rw [nI_leI (by omega) (by omega)]; omega), if_pos e, n3, mj_tab_nI (by omega) (by omega), Option.bind_some, q5 k e]
  · rw [if_pos (by rw [nI_leI (by omega) (by omega)]; omega), if_neg e]
/-- the side k from the last, 1 where there is none -/
theorem rn_back {X : tX} {σ : kS} (h : rSt X σ) (ok : x_ok X) {i k : Nat} (hi : i < x_n X) (h1 : 1 ≤ k) (hk : k ≤ x_s X i) : mj_tab (σ.2.2.1 7) 150 (3 * nI i + nI (x_s X i) - nI k) = some (nI (x_P X i (3 - k))) := by
  have hn := ok.1
  have s3 := (ok.2 i hi).2.1.1
  obtain ⟨q1, q2, q3, q4, q5⟩ := h.2 i hi
  rw [n3, nI_sub (by omega), show 3 * i + x_s X i - k = 3 * i + (x_s X i - k) by omega, mj_tab_nI (by omega) (by omega), q5 _ (by omega)]
  congr 3
  omega
def lf (P : Nat → Nat) (r : Nat) : Nat → Nat
  | 0 => r
  | j + 1 => lf P r j / P (2 - j)
def stp (A : Nat → Nat) : Nat → Nat
  | 0 => 1
  | j + 1 => stp A j * A (2 - j)
def att (A P : Nat → Nat) (r : Nat) : Nat → Nat
  | 0 => 0
  | j + 1 => att A P r j + (if A (2 - j) = 1 then 0 else lf P r j % P (2 - j) * stp A j)
theorem lf_le (P : Nat → Nat) (r : Nat) : ∀ j, lf P r j ≤ r
  | 0 => Nat.le_refl _
  | j + 1 => Nat.le_trans (Nat.div_le_self _ _) (lf_le P r j)
theorem rn_spread {X : tX} {σ : kS} (h : rSt X σ) (ok : x_ok X) {N : Nat} (hN : 300 ≤ N) {i p r : Nat} (hi : i < x_n X) (hp : p < x_n X) (hr : r < 64) : kf_PM_spreadCell N σ (nI i) (nI r) (nI p) = some (nI (att (x_P X p) (x_P X i) r (x_s X i)), σ) := by
  have hn := ok.1
  have sh := (ok.2 i hi).2.1
  have sp := (ok.2 p hp).2.1
  have s3 := sh.1
  have p3 := sp.1
  obtain ⟨q1, q2, q3, q4, q5⟩ := h.2 i hi
  obtain ⟨u1, u2, u3, u4, u5⟩ := h.2 p hp
  have lp : ∀ d j fu, d + j = x_s X i → d < fu → kb_PM_spreadCell_12 N fu σ (nI i) (nI p) (nI (lf (x_P X i) r j)) (nI (att (x_P X p) (x_P X i) r j)) (nI (stp (x_P X p) j)) (nI (j + 1)) = some (nI (att (x_P X p) (x_P X i) r (x_s X i)), σ) := by
    intro d
    induction d with
    | zero =>
      intro j fu hd hf
      obtain ⟨f', rfl⟩ : ∃ f', fu = f' + 1 := ⟨fu - 1, by omega⟩
      have : j = x_s X i := by omega
      subst this
      rw [kb_PM_spreadCell_12, mj_tab_nI (by omega) (by omega), Option.bind_some, q4, if_pos (by rw [nI_ltI (by omega) (by omega)]; omega)]
    | succ d ih =>
      intro j fu hd hf
      obtain ⟨f', rfl⟩ : ∃ f', fu = f' + 1 := ⟨fu - 1, by omega⟩
      have ll := lf_le (x_P X i) r j
      obtain ⟨P1, P2⟩ := sh.2.1 (2 - j) (by omega)
      obtain ⟨A1, A2⟩ := sp.2.1 (2 - j) (by omega)
      obtain ⟨D1, D2⟩ := nI_div (a := lf (x_P X i) r j) (b := x_P X i (2 - j)) P1 (by omega) (by omega)
      have e97 : ∀ w w', kb_PM_spreadCell_97 N (kb_PM_spreadCell_12 N f') σ (nI i) (nI p) (nI (lf (x_P X i) r j)) w w' (nI (j + 1)) (nI (x_P X i (2 - j))) (nI (x_P X p (2 - j))) = kb_PM_spreadCell_12 N f' σ (nI i) (nI p) (nI (lf (x_P X i) r (j + 1))) w (w' * nI (x_P X p (2 - j))) (nI (j + 1 + 1)) := fun w w' => by
        unfold kb_PM_spreadCell_97
        rw [if_neg (by rw [show (0 : Int32) = nI 0 from rfl, nI_eq (by omega) (by omega)]; omega), D1, nI_1]
        rfl
      have e76 : kb_PM_spreadCell_76 N (kb_PM_spreadCell_12 N f') σ (nI i) (nI p) (nI (lf (x_P X i) r j)) (nI (att (x_P X p) (x_P X i) r j)) (nI (stp (x_P X p) j)) (nI (j + 1)) (nI (x_P X i (2 - j))) (nI (x_P X p (2 - j))) = some (nI (att (x_P X p) (x_P X i) r (x_s X i)), σ) := by
        have g := ih (j + 1) f' (by omega) (by omega)
        have ea : att (x_P X p) (x_P X i) r (j + 1) = att (x_P X p) (x_P X i) r j + (if x_P X p (2 - j) = 1 then 0 else lf (x_P X i) r j % x_P X i (2 - j) * stp (x_P X p) j) := rfl
        have es : stp (x_P X p) (j + 1) = stp (x_P X p) j * x_P X p (2 - j) := rfl
        rw [ea, es] at g
        unfold kb_PM_spreadCell_76
        by_cases e1 : x_P X p (2 - j) = 1
        · rw [if_pos e1, Nat.add_zero] at g
          rw [if_pos (by rw [show (1 : Int32) = nI 1 from rfl, nI_leI (by omega) (by omega)]; omega), e97, nI_mul]
          exact g
        · rw [if_neg e1] at g
          rw [if_neg (by rw [show (1 : Int32) = nI 1 from rfl, nI_leI (by omega) (by omega)]; omega), if_neg (by rw [show (0 : Int32) = nI 0 from rfl, nI_eq (by omega) (by omega)]; omega), D2, e97, nI_mul, nI_mul, nI_add]
          exact g
      have e0 : 3 - (j + 1) = 2 - j := by omega
      have b1 := rn_back h ok hi (show 1 ≤ j + 1 by omega) (show j + 1 ≤ x_s X i by omega)
      rw [e0] at b1
      rw [kb_PM_spreadCell_12, mj_tab_nI (by omega) (by omega), Option.bind_some, q4, if_neg (by rw [nI_ltI (by omega) (by omega)]; omega), Option.bind_some, b1, Option.bind_some, mj_tab_nI (by omega) (by omega), Option.bind_some, u4]
      by_cases e2 : x_s X p < j + 1
      · have : x_P X p (2 - j) = 1 := sp.2.2.1 _ (by omega)
        rw [this] at e76
        rw [if_pos (by rw [nI_ltI (by omega) (by omega)]; omega)]
        exact e76
      · have b2 := rn_back h ok hp (show 1 ≤ j + 1 by omega) (show j + 1 ≤ x_s X p by omega)
        rw [e0] at b2
        rw [if_neg (by rw [nI_ltI (by omega) (by omega)]; omega), Option.bind_some, b2, Option.bind_some]
        exact e76
  exact lp (x_s X i) 0 N (by omega) (by omega)
