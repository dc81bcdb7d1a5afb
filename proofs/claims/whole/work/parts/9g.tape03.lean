/-! THE TAPE, 3: the class's walk over the cells of a node -/
theorem cw_at (N : Nat) (ρ : tR) (τ : tS) (W : Nat → Nat) {P : Nat → Nat} {x y z : Nat} (hy : y < P 1) (hz : z < P 2) : kf_Vw_at N ρ τ (fun c => nI (W c)) (nI x) (nI y) (nI z) = some (nI (w_at W P ((x * P 1 + y) * P 2 + z) 0), τ) := by
  unfold kf_Vw_at kb_Vw_at_0 w_at
  rw [mr_z hz, mr_d hz, mr_y hy, mr_x hy, nI_mul, nI_mul, nI_mul, nI_add, nI_add, nI_add, Nat.zero_mul, Nat.add_zero]
theorem cw_z {X : tX} {ρ : tR} (ok : x_ok X) {i : Nat} (hi : i < x_n X) (ho : x_o X i < 16) {N : Nat} (hN : 300 ≤ N) (dn : Int32) (Inv : Nat → tS → Prop) (hS : ∀ r τ, Inv r τ → cSt X ρ τ) (step : ∀ r τ, r < x_c X i → Inv r τ → ∃ τ', Inv (r + 1) τ' ∧ ∀ c19 c33 c48 x y z, kb_No_walk_97 N ρ c19 c33 c48 τ i dn (nI r) x y z (nI (x_u X i r 0)) (if x_o X i < 5 then nI (x_v X i r 0) else 0) = c48 τ' i dn (nI r + 1) x y (z + 1)) {x y : Nat} (hx : x < x_P X i 0) (hy : y < x_P X i 1) : ∀ d z fu τ, d + z = x_P X i 2 → d < fu → Inv ((x * x_P X i 1 + y) * x_P X i 2 + z) τ → ∃ τ', Inv ((x * x_P X i 1 + (y + 1)) * x_P X i 2) τ' ∧ ∀ c19 c33, kb_No_walk_48 N ρ c19 c33 fu τ i dn (nI ((x * x_P X i 1 + y) * x_P X i 2 + z)) (nI x) (nI y) (nI z) = c33 τ' i dn (nI ((x * x_P X i 1 + (y + 1)) * x_P X i 2)) (nI x) (nI y + 1) := by
  have sh := (ok.2 i hi).2.1
  have p2 := sh.2.1 2 (by omega)
  have _ := hN
  intro d
  induction d with
  | zero =>
    intro z fu τ hd hf hI
    obtain ⟨f', rfl⟩ : ∃ f', fu = f' + 1 := ⟨fu - 1, by omega⟩
    have hz : z = x_P X i 2 := by omega
    have e : (x * x_P X i 1 + y) * x_P X i 2 + z = (x * x_P X i 1 + (y + 1)) * x_P X i 2 := by
      rw [hz, ← Nat.add_assoc, Nat.add_mul _ 1, Nat.one_mul]
    have hs := ((hS _ _ hI).2.2 i hi).1.2.2.2.1
    rw [e] at hI ⊢
    refine ⟨τ, hI, fun c19 c33 => ?_⟩
    rw [kb_No_walk_48, hs, hz, if_pos (Int32.le_refl _)]
  | succ d ih =>
    intro z fu τ hd hf hI
    obtain ⟨f', rfl⟩ : ∃ f', fu = f' + 1 := ⟨fu - 1, by omega⟩
    have hz : z < x_P X i 2 := by omega
    have hr : (x * x_P X i 1 + y) * x_P X i 2 + z < x_c X i := mr_lt hx hy hz
    have hc := hS _ _ hI
    obtain ⟨s1, s2, s3, s4, s5, s6⟩ := hc.2.2 i hi
    obtain ⟨q1, q2, q3⟩ := s4 ho
    obtain ⟨τ1, hI1, st⟩ := step _ τ hr hI
    obtain ⟨τ2, hI2, en2⟩ := ih (z + 1) f' τ1 (by omega) (by omega) hI1
    refine ⟨τ2, hI2, fun c19 c33 => ?_⟩
    have w1 : kf_Vw_at N ρ τ (fun c => nI (w_1 (x_o X i) (x_b X i) (x_s X (x_a X i)) (x_P X (x_a X i)) c)) (nI x) (nI y) (nI z) = some (nI (x_u X i ((x * x_P X i 1 + y) * x_P X i 2 + z) 0), τ) := cw_at N ρ τ _ hy hz
    have w2 : kf_Vw_at N ρ τ (fun c => nI (w_2 (x_o X i) (x_P X (x_b X i)) c)) (nI x) (nI y) (nI z) = some (nI (x_v X i ((x * x_P X i 1 + y) * x_P X i 2 + z) 0), τ) := cw_at N ρ τ _ hy hz
    have s := st c19 c33 (kb_No_walk_48 N ρ c19 c33 f') (nI x) (nI y) (nI z)
    rw [nI_1, nI_1] at s
    have g := en2 c19 c33
    rw [← Nat.add_assoc] at g
    rw [kb_No_walk_48, s1.2.2.2.1, if_neg (by rw [nI_leI (by omega) (by omega)]; omega), q2, Option.bind_some, w1, kk_some]
    by_cases h5 : x_o X i < 5
    · obtain ⟨v1, v2⟩ := s5 h5
      rw [if_pos h5] at s
      rw [v2]
      unfold tk_opt
      simp only []
      rw [Option.bind_some, w2, kk_some, s]
      exact g
    · obtain ⟨v1, v2⟩ := s6 (by omega)
      rw [if_neg h5] at s
      rw [v2]
      unfold tk_opt
      simp only []
      rw [s]
      exact g
theorem cw_y {X : tX} {ρ : tR} (ok : x_ok X) {i : Nat} (hi : i < x_n X) (ho : x_o X i < 16) {N : Nat} (hN : 300 ≤ N) (dn : Int32) (Inv : Nat → tS → Prop) (hS : ∀ r τ, Inv r τ → cSt X ρ τ) (step : ∀ r τ, r < x_c X i → Inv r τ → ∃ τ', Inv (r + 1) τ' ∧ ∀ c19 c33 c48 x y z, kb_No_walk_97 N ρ c19 c33 c48 τ i dn (nI r) x y z (nI (x_u X i r 0)) (if x_o X i < 5 then nI (x_v X i r 0) else 0) = c48 τ' i dn (nI r + 1) x y (z + 1)) {x : Nat} (hx : x < x_P X i 0) : ∀ d y fu τ, d + y = x_P X i 1 → d < fu → Inv ((x * x_P X i 1 + y) * x_P X i 2) τ → ∃ τ', Inv (((x + 1) * x_P X i 1) * x_P X i 2) τ' ∧ ∀ c19, kb_No_walk_33 N ρ c19 fu τ i dn (nI ((x * x_P X i 1 + y) * x_P X i 2)) (nI x) (nI y) = c19 τ' i dn (nI (((x + 1) * x_P X i 1) * x_P X i 2)) (nI x + 1) := by
  have sh := (ok.2 i hi).2.1
  have p1 := sh.2.1 1 (by omega)
  have p2 := sh.2.1 2 (by omega)
  intro d
  induction d with
  | zero =>
    intro y fu τ hd hf hI
    obtain ⟨f', rfl⟩ : ∃ f', fu = f' + 1 := ⟨fu - 1, by omega⟩
    have hz : y = x_P X i 1 := by omega
    have e : (x * x_P X i 1 + y) * x_P X i 2 = ((x + 1) * x_P X i 1) * x_P X i 2 := by
      rw [hz, Nat.add_mul x 1, Nat.one_mul]
    have hs := ((hS _ _ hI).2.2 i hi).1.2.2.1
    rw [e] at hI ⊢
    refine ⟨τ, hI, fun c19 => ?_⟩
    rw [kb_No_walk_33, hs, hz, if_pos (Int32.le_refl _)]
  | succ d ih =>
    intro y fu τ hd hf hI
    obtain ⟨f', rfl⟩ : ∃ f', fu = f' + 1 := ⟨fu - 1, by omega⟩
    have hs := ((hS _ _ hI).2.2 i hi).1.2.2.1
    obtain ⟨τ1, hI1, g1⟩ := cw_z ok hi ho hN dn Inv hS step hx (show y < x_P X i 1 by omega) (x_P X i 2) 0 N τ (by omega) (by omega) hI
    obtain ⟨τ2, hI2, g2⟩ := ih (y + 1) f' τ1 (by omega) (by omega) hI1
    refine ⟨τ2, hI2, fun c19 => ?_⟩
    rw [kb_No_walk_33, hs, if_neg (by rw [nI_leI (by omega) (by omega)]; omega)]
    refine (g1 c19 (kb_No_walk_33 N ρ c19 f')).trans ?_
    rw [nI_1]
    exact g2 c19
theorem cn_walk {X : tX} {ρ : tR} (ok : x_ok X) {i : Nat} (hi : i < x_n X) (ho : x_o X i < 16) {N : Nat} (hN : 300 ≤ N) (dn : Int32) (Inv : Nat → tS → Prop) (hS : ∀ r τ, Inv r τ → cSt X ρ τ) (step : ∀ r τ, r < x_c X i → Inv r τ → ∃ τ', Inv (r + 1) τ' ∧ ∀ c19 c33 c48 x y z, kb_No_walk_97 N ρ c19 c33 c48 τ i dn (nI r) x y z (nI (x_u X i r 0)) (if x_o X i < 5 then nI (x_v X i r 0) else 0) = c48 τ' i dn (nI r + 1) x y (z + 1)) {τ : tS} (h0 : Inv 0 τ) : ∃ τ', kf_No_walk N ρ τ i dn = some ((), τ') ∧ Inv (x_c X i) τ' := by
  have sh := (ok.2 i hi).2.1
  have p0 := sh.2.1 0 (by omega)
  have p1 := sh.2.1 1 (by omega)
  have lp : ∀ d x fu τ, d + x = x_P X i 0 → d < fu → Inv ((x * x_P X i 1) * x_P X i 2) τ → ∃ τ', kb_No_walk_19 N ρ fu τ i dn (nI ((x * x_P X i 1) * x_P X i 2)) (nI x) = some ((), τ') ∧ Inv (x_c X i) τ' := by
    intro d
    induction d with
    | zero =>
      intro x fu τ hd hf hI
      obtain ⟨f', rfl⟩ : ∃ f', fu = f' + 1 := ⟨fu - 1, by omega⟩
      have hz : x = x_P X i 0 := by omega
      have hs := ((hS _ _ hI).2.2 i hi).1.2.1
      subst hz
      refine ⟨τ, ?_, hI⟩
      rw [kb_No_walk_19, hs, if_pos (Int32.le_refl _)]
    | succ d ih =>
      intro x fu τ hd hf hI
      obtain ⟨f', rfl⟩ : ∃ f', fu = f' + 1 := ⟨fu - 1, by omega⟩
      have hs := ((hS _ _ hI).2.2 i hi).1.2.1
      obtain ⟨τ1, hI1, g1⟩ := cw_y ok hi ho hN dn Inv hS step (show x < x_P X i 0 by omega) (x_P X i 1) 0 N τ (by omega) (by omega) hI
      obtain ⟨τ2, g2, hI2⟩ := ih (x + 1) f' τ1 (by omega) (by omega) hI1
      refine ⟨τ2, ?_, hI2⟩
      rw [kb_No_walk_19, hs, if_neg (by rw [nI_leI (by omega) (by omega)]; omega)]
      refine (g1 (kb_No_walk_19 N ρ f')).trans ?_
      rw [nI_1]
      exact g2
  obtain ⟨q1, q2, q3⟩ := ((hS _ _ h0).2.2 i hi).2.2.2.1 ho
  obtain ⟨τ', g1, g2⟩ := lp (x_P X i 0) 0 N τ (by omega) (by omega) (by rw [Nat.zero_mul, Nat.zero_mul]; exact h0)
  refine ⟨τ', ?_, g2⟩
  unfold kf_No_walk kb_No_walk_0
  rw [q1, q2]
  rw [Nat.zero_mul, Nat.zero_mul] at g1
  exact g1
