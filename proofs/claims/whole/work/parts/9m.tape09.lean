theorem att_s {A P : Nat → Nat} {r s : Nat} (hs : s ≤ 3) (h : ∀ k, k + s < 3 → A k = 1) : att A P r s = att A P r 3 := by
  have st : ∀ j, j < 3 → A (2 - j) = 1 → att A P r (j + 1) = att A P r j := fun j _ e => by
    show att A P r j + (if A (2 - j) = 1 then 0 else _) = _
    rw [if_pos e, Nat.add_zero]
  obtain rfl | rfl | rfl | rfl : s = 0 ∨ s = 1 ∨ s = 2 ∨ s = 3 := by omega
  · rw [st 2 (by omega) (h _ (by omega)), st 1 (by omega) (h _ (by omega)), st 0 (by omega) (h _ (by omega))]
  · rw [st 2 (by omega) (h _ (by omega)), st 1 (by omega) (h _ (by omega))]
  · rw [st 2 (by omega) (h _ (by omega))]
  · rfl
theorem att_w {A P : Nat → Nat} {r k : Nat} (hA : ∀ j, j < 3 → 1 ≤ A j) (hP : ∀ j, j < 3 → 1 ≤ P j) (h : ∀ j, j < 3 → A j = P j ∨ A j = 1) (hr : r < c3 P) : att A P r 3 = w_at (wSp A) P r k := by
  obtain ⟨g1, g2, g3, g4⟩ := mr_all (hP 1 (by omega)) (hP 2 (by omega)) hr
  rw [(sp_lt (k := k) hA hP h hr).1]
  show 0 + (if A 2 = 1 then 0 else r % P 2 * 1) + (if A 1 = 1 then 0 else r / P 2 % P 1 * (1 * A 2)) + (if A 0 = 1 then 0 else r / P 2 / P 1 % P 0 * (1 * A 2 * A 1)) = _
  rw [Nat.mod_eq_of_lt g1, Nat.one_mul, Nat.mul_one]
  generalize r / P 2 / P 1 = x
  generalize r / P 2 % P 1 = y
  generalize r % P 2 = z
  have t1 : (if A 0 = 1 then 0 else x * (A 2 * A 1)) = (if A 0 = 1 then 0 else x) * A 1 * A 2 := by
    split
    · simp
    · rw [Nat.mul_assoc, Nat.mul_comm (A 2)]
  have t2 : (if A 1 = 1 then 0 else y * A 2) = (if A 1 = 1 then 0 else y) * A 2 := by
    split
    · simp
    · rfl
  rw [t1, t2, Nat.add_mul]
  omega
theorem rn_spA {X : tX} {σ : kS} (h : rSt X σ) (ok : x_ok X) {i : Nat} (hi : i < x_n X) {r : Nat} (hr : r < x_c X i) {N : Nat} (hN : 300 ≤ N) (ho : x_o X i < 4) (k : Nat) : kf_PM_spreadCell N σ (nI i) (nI r) (nI (x_a X i)) = some (nI (x_u X i r k), σ) := by
  obtain ⟨g1, g2, g3, g4⟩ := x_lt ok hi (by omega)
  obtain ⟨_, _, q⟩ := ok.2 i hi
  obtain ⟨_, _, q⟩ := q (by omega)
  unfold x_fit at q
  rw [if_pos ho] at q
  have hA := sh_pos g4
  have hP := sh_pos g3
  have cb := (xc_b ok hi).2
  rw [rn_spread h ok hN hi g2 (by omega), att_s g3.1 (fun k hk => g4.2.2.1 k (by omega)), att_w (k := k) hA hP (fun j hj => by have := hA j hj; rcases (q.2 j hj).2 with g | g | g <;> have := (q.2 j hj).1 <;> omega) hr]
  unfold x_u w_1
  rw [if_pos ho]
theorem rn_spB {X : tX} {σ : kS} (h : rSt X σ) (ok : x_ok X) {i : Nat} (hi : i < x_n X) {r : Nat} (hr : r < x_c X i) {N : Nat} (hN : 300 ≤ N) (ho : x_o X i < 4) (k : Nat) : kf_PM_spreadCell N σ (nI i) (nI r) (nI (x_b X i)) = some (nI (x_v X i r k), σ) := by
  obtain ⟨g1, g2, g3, g4⟩ := x_lt ok hi (by omega)
  obtain ⟨v1, v2, v3⟩ := x_lt2 ok hi (by omega)
  obtain ⟨_, _, q⟩ := ok.2 i hi
  obtain ⟨_, _, q⟩ := q (by omega)
  unfold x_fit at q
  rw [if_pos ho] at q
  have hA := sh_pos g4
  have hB := sh_pos v3
  have hP := sh_pos g3
  have cb := (xc_b ok hi).2
  rw [rn_spread h ok hN hi v2 (by omega), att_s g3.1 (fun k hk => v3.2.2.1 k (by omega)), att_w (k := k) hB hP (fun j hj => by have := hA j hj; have := hB j hj; rcases (q.2 j hj).2 with g | g | g <;> have := (q.2 j hj).1 <;> omega) hr]
  unfold x_v w_2
  rw [if_neg (by omega)]
theorem rn_al {X : tX} {σ : kS} (h : rSt X σ) (ok : x_ok X) {i : Nat} (hi : i < x_n X) {r : Nat} (hr : r < x_c X i) {N : Nat} (hN : 300 ≤ N) (h5 : 5 ≤ x_o X i) (h8 : x_o X i < 8) (k : Nat) : kf_PM_alongCell N σ (nI (x_a X i)) (nI (x_b X i)) (nI r) (nI k) = some (nI (x_u X i r k), σ) := by
  have hn := ok.1
  obtain ⟨g1, g2, g3, g4⟩ := x_lt ok hi (by omega)
  obtain ⟨_, _, q⟩ := ok.2 i hi
  obtain ⟨_, _, q⟩ := q (by omega)
  unfold x_fit at q
  rw [if_neg (by omega), if_neg (by omega), if_pos h8] at q
  obtain ⟨u1, u2, u3, u4, u5⟩ := q
  have hA := sh_pos g4
  have s3 := g4.1
  have cb := (xc_b ok hi).2
  have eq := (al_eq (n := 0) (k := k) (show 3 - x_s X (x_a X i) + x_b X i < 3 by omega) hA u3 u4 u5 hr).1
  have xe : x_u X i r k = w_at (wAl (x_P X (x_a X i)) (3 - x_s X (x_a X i) + x_b X i) 0) (x_P X i) r k := by
    unfold x_u w_1
    rw [if_neg (by omega), if_neg (by omega), if_pos h8]
  rw [xe, eq, Nat.zero_add]
  obtain ⟨q1, q2, q3, q4, q5⟩ := h.2 _ g2
  generalize x_a X i = a at *
  generalize x_b X i = b at *
  have fin : ∀ f', 1 ≤ st3 (x_P X a) (3 - x_s X a + b) ∧ st3 (x_P X a) (3 - x_s X a + b) ≤ 4096 → kb_PM_alongCell_8 N (f' + 1) σ (nI a) (nI b) (nI r) (nI k) (nI (st3 (x_P X a) (3 - x_s X a + b))) (nI (x_s X a)) = some (nI ((r / st3 (x_P X a) (3 - x_s X a + b) * x_P X a (3 - x_s X a + b) + k) * st3 (x_P X a) (3 - x_s X a + b) + r % st3 (x_P X a) (3 - x_s X a + b)), σ) := fun f' hb => by
    obtain ⟨D1, D2⟩ := nI_div (a := r) (b := st3 (x_P X a) (3 - x_s X a + b)) hb.1 (by omega) (by omega)
    have z : ¬ nI (st3 (x_P X a) (3 - x_s X a + b)) = 0 := by rw [show (0 : Int32) = nI 0 from rfl, nI_eq (by omega) (by omega)]; omega
    rw [kb_PM_alongCell_8, mj_tab_nI (by omega) (by omega), Option.bind_some, q4, if_pos (Int32.le_refl _), if_neg z, n3, mj_tab_nI (by omega) (by omega), Option.bind_some, if_neg z, q5 b (by omega), D2, D1, nI_mul, nI_add, nI_mul, nI_add]
  have stp1 : ∀ f' m, b < m → m < x_s X a → ∀ w, kb_PM_alongCell_8 N (f' + 1) σ (nI a) (nI b) (nI r) (nI k) (nI w) (nI m) = kb_PM_alongCell_8 N f' σ (nI a) (nI b) (nI r) (nI k) (nI (w * x_P X a (3 - x_s X a + m))) (nI (m + 1)) := fun f' m hb hm w => by
    rw [kb_PM_alongCell_8, mj_tab_nI (by omega) (by omega), Option.bind_some, q4, if_neg (by rw [nI_leI (by omega) (by omega)]; omega), n3, mj_tab_nI (by omega) (by omega), Option.bind_some, q5 m hm, nI_mul, nI_1]
  have a1 := g4.2.1 1 (by omega)
  have a2 := g4.2.1 2 (by omega)
  unfold kf_PM_alongCell kb_PM_alongCell_0
  rw [nI_1, show (1 : Int32) = nI 1 from rfl]
  obtain ⟨f', rfl⟩ : ∃ f', N = f' + 3 := ⟨N - 3, by omega⟩
  obtain e | e | e : 3 - x_s X a + b = 2 ∨ 3 - x_s X a + b = 1 ∨ 3 - x_s X a + b = 0 := by omega
  · have es : b + 1 = x_s X a := by omega
    have := fin (f' + 2) (by rw [e]; exact ⟨Nat.le_refl _, show 1 ≤ 4096 by omega⟩)
    rw [e] at this ⊢
    rw [es]
    exact this
  · have es : b + 1 + 1 = x_s X a := by omega
    have := fin (f' + 1) (by rw [e]; exact ⟨a2.1, by show x_P X a 2 ≤ 4096; omega⟩)
    rw [stp1 (f' + 2) (b + 1) (by omega) (by omega), show 3 - x_s X a + (b + 1) = 2 by omega, Nat.one_mul, es]
    rw [e] at this ⊢
    exact this
  · have es : b + 1 + 1 + 1 = x_s X a := by omega
    have ml : x_P X a 1 * x_P X a 2 ≤ 64 * 64 := Nat.mul_le_mul a1.2 a2.2
    have := fin f' (by rw [e]; exact ⟨Nat.mul_pos a1.1 a2.1, ml⟩)
    rw [stp1 (f' + 2) (b + 1) (by omega) (by omega), stp1 (f' + 1) (b + 1 + 1) (by omega) (by omega), show 3 - x_s X a + (b + 1) = 1 by omega, show 3 - x_s X a + (b + 1 + 1) = 2 by omega, Nat.one_mul, es]
    rw [e] at this ⊢
    exact this
theorem rn_tu {X : tX} {σ : kS} (h : rSt X σ) (ok : x_ok X) {i : Nat} (hi : i < x_n X) {r : Nat} (hr : r < x_c X i) {N : Nat} (hN : 300 ≤ N) (h9 : x_o X i = 9) (k : Nat) : kf_PM_turnedCell N σ (nI (x_a X i)) (nI r) = some (nI (x_u X i r k), σ) := by
  have hn := ok.1
  have _ := hN
  obtain ⟨g1, g2, g3, g4⟩ := x_lt ok hi (by omega)
  obtain ⟨_, _, q⟩ := ok.2 i hi
  obtain ⟨_, _, q⟩ := q (by omega)
  unfold x_fit at q
  rw [if_neg (by omega), if_neg (by omega), if_neg (by omega), if_neg (by omega), if_pos h9] at q
  obtain ⟨u0, u1, u2, u3, u4, u5⟩ := q
  have hA := sh_pos g4
  have s3 := g4.1
  have cb := (xc_b ok hi).2
  have eq := (tu_eq (k := k) hA u3 u4 u5 hr).1
  have xe : x_u X i r k = w_at (w5 0 (st3 (x_P X (x_a X i)) 0) 1 (x_P X (x_a X i) 2) 0) (x_P X i) r k := by
    unfold x_u w_1
    rw [if_neg (by omega), if_neg (by omega), if_neg (by omega), if_neg (by omega), if_pos h9]
  obtain ⟨q1, q2, q3, q4, q5⟩ := h.2 _ g2
  have a1 := g4.2.1 1 (by omega)
  have a2 := g4.2.1 2 (by omega)
  have ml : x_P X (x_a X i) 1 * x_P X (x_a X i) 2 ≤ 64 * 64 := Nat.mul_le_mul a1.2 a2.2
  have mp : 1 ≤ x_P X (x_a X i) 1 * x_P X (x_a X i) 2 := Nat.mul_pos a1.1 a2.1
  have b2 := rn_back h ok g2 (show 1 ≤ 2 by omega) (show 2 ≤ x_s X (x_a X i) by omega)
  have b1 := rn_back h ok g2 (show 1 ≤ 1 by omega) (show 1 ≤ x_s X (x_a X i) by omega)
  have b2' : mj_tab (σ.2.2.1 7) 150 (3 * nI (x_a X i) + nI (x_s X (x_a X i)) - 2) = some (nI (x_P X (x_a X i) 1)) := b2
  have b1' : mj_tab (σ.2.2.1 7) 150 (3 * nI (x_a X i) + nI (x_s X (x_a X i)) - 1) = some (nI (x_P X (x_a X i) 2)) := b1
  have ih : r % (x_P X (x_a X i) 1 * x_P X (x_a X i) 2) ≤ r := Nat.mod_le _ _
  obtain ⟨D1, D2⟩ := nI_div (a := r) (b := x_P X (x_a X i) 1 * x_P X (x_a X i) 2) mp (by omega) (by omega)
  obtain ⟨E1, E2⟩ := nI_div (a := r % (x_P X (x_a X i) 1 * x_P X (x_a X i) 2)) (b := x_P X (x_a X i) 1) a1.1 (by omega) (by omega)
  unfold kf_PM_turnedCell kb_PM_turnedCell_0
  rw [mj_tab_nI (by omega) (by omega), Option.bind_some, q4, b2', Option.bind_some, Option.bind_some, b1', Option.bind_some, nI_mul, if_neg (by rw [show (0 : Int32) = nI 0 from rfl, nI_eq (by omega) (by omega)]; omega), if_neg (by rw [show (0 : Int32) = nI 0 from rfl, nI_eq (by omega) (by omega)]; omega), if_neg (by rw [show (0 : Int32) = nI 0 from rfl, nI_eq (by omega) (by omega)]; omega), if_neg (by rw [show (0 : Int32) = nI 0 from rfl, nI_eq (by omega) (by omega)]; omega), D2, D1, E2, E1, nI_mul, nI_mul, nI_add, nI_add, xe, eq]
