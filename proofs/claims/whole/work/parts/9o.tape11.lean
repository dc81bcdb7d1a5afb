/-! THE TAPE, 10: the reference reckons a cell, and a tape up to a node -/
theorem rn_along {X : tX} {σ : kS} {V : tF} (h : rSt X σ) (ok : x_ok X) {i : Nat} (hi : i < x_n X) {r : Nat} (hr : r < x_c X i) (hv : ∀ j, j < i → vR X V σ j) {N : Nat} (hN : 300 ≤ N) (gV : gF V) (h5 : 5 ≤ x_o X i) (h8 : x_o X i < 8) : kf_PM_along N σ (nI i) (nI r) = some ((), kPQ σ (ev (x_o X i) (x_t X i) (fA X V i r) (fB X V i r))) := by
  have hn := ok.1
  have tb := xt_b ok hi (by omega)
  obtain ⟨q1, q2, q3, q4, q5⟩ := h.2 i hi
  obtain ⟨g1, g2, g3, g4⟩ := x_lt ok hi (by omega)
  have e3 : σ.2.2.1 3 i = nI (x_o X i) := by rw [q1]; exact if_neg (by omega)
  have e4 : σ.2.2.1 4 i = nI (x_a X i) := by rw [q2]; exact if_neg (by omega)
  have e5 : σ.2.2.1 5 i = nI (x_b X i) := by rw [q3]; exact if_neg (by omega)
  have t3 : mj_tab (σ.2.2.1 3) 50 (nI i) = some (nI (x_o X i)) := by rw [mj_tab_nI (by omega) (by omega), e3]
  have t4 : mj_tab (σ.2.2.1 4) 50 (nI i) = some (nI (x_a X i)) := by rw [mj_tab_nI (by omega) (by omega), e4]
  have t5 : mj_tab (σ.2.2.1 5) 50 (nI i) = some (nI (x_b X i)) := by rw [mj_tab_nI (by omega) (by omega), e5]
  obtain ⟨_, _, q⟩ := ok.2 i hi
  obtain ⟨_, _, q⟩ := q (by omega)
  unfold x_fit at q
  rw [if_neg (by omega), if_neg (by omega), if_pos h8] at q
  have s3 := g4.1
  have sd : kf_PM_sideOf N σ (nI (x_a X i)) (nI (x_b X i)) = some (nI (x_t X i), σ) := by
    rw [rn_side h ok N g2 (by omega), if_pos q.1]
    unfold x_t w_t
    rw [if_neg (by omega), if_neg (by omega), if_pos h8]
  unfold kf_PM_along kb_PM_along_0
  rw [t4, Option.bind_some, t5, Option.bind_some, sd, kk_some, t3, Option.bind_some]
  by_cases h7 : x_o X i = 7
  · have ee : ev (x_o X i) (x_t X i) (fA X V i r) (fB X V i r) = if wld (fA X V i r) (x_t X i) = true then none else fA X V i r (grt (fA X V i r) (x_t X i)) := by rw [h7]; rfl
    rw [ee, if_pos (show nI (x_o X i) = 7 by rw [h7]; rfl), rn_great h ok hi hr hv hN gV h5 h8, kk_some]
    by_cases hw : wld (fA X V i r) (x_t X i) = true
    · have l0 := kp_least (N := N) (by omega) σ rg_0 rg_0
      rw [if_pos hw, if_pos hw, if_neg (by decide), show (0 : Int64) = zL 0 from rfl, l0, kk_some]
      rfl
    · have gl := grt_lt (fA X V i r) (x_t X i) (by omega)
      obtain ⟨a1, a2⟩ := rA_rd ok hi hr hv (show x_o X i < 16 by omega) gl
      rw [if_neg hw, if_neg hw, if_pos (nI_pos' (by omega)), t5, Option.bind_some, rn_al h ok hi hr hN h5 h8, kk_some, rn_load a1 a2, kk_some]
      rfl
  · rw [if_neg (fun q : nI (x_o X i) = 7 => h7 ((nI_eq (b := 7) (by omega) (by omega)).mp q))]
    have lp : ∀ d k fu s, d + k = x_t X i → d < fu → sPQ σ s → (0 < k → s = kPQ σ (fsm (fA X V i r) k)) → kb_PM_along_86 N fu s (nI i) (nI r) (nI (x_a X i)) (nI (x_t X i)) (zL (pP (fsm (fA X V i r) k))) (zL (pQ (fsm (fA X V i r) k))) (nI k) = some ((), kPQ σ (ev (x_o X i) (x_t X i) (fA X V i r) (fB X V i r))) := by
      intro d
      induction d with
      | zero =>
        intro k fu s hd hf hs hk
        obtain ⟨f', rfl⟩ : ∃ f', fu = f' + 1 := ⟨fu - 1, by omega⟩
        have : k = x_t X i := by omega
        subst this
        rw [kb_PM_along_86, if_pos (Int32.le_refl _), (sPQ_1 hs).2, t3, Option.bind_some]
        unfold kb_PM_along_177
        by_cases h6 : x_o X i = 6
        · obtain ⟨f1, f2, f3⟩ := fnat_s (y := x_t X i) (by omega)
          have ov := kp_over (N := N) (by omega) s (fG_fsm (fA X V i r) (x_t X i)) f1
          rw [f2, f3] at ov
          rw [if_pos (show nI (x_o X i) = 6 by rw [h6]; rfl), n2l (by omega), show (1 : Int64) = zL 1 from rfl, ov, kk_some, sPQ_k hs, h6]
          rfl
        · have h5' : x_o X i = 5 := by omega
          rw [if_neg (fun q : nI (x_o X i) = 6 => h6 ((nI_eq (b := 6) (by omega) (by omega)).mp q)), hk (by omega), h5']
          rfl
      | succ d ih =>
        intro k fu s hd hf hs hk
        obtain ⟨f', rfl⟩ : ∃ f', fu = f' + 1 := ⟨fu - 1, by omega⟩
        obtain ⟨a1, a2⟩ := rA_rd ok hi hr hv (show x_o X i < 16 by omega) (show k < x_t X i by omega)
        have g := ih (k + 1) f' (kPQ σ (fsm (fA X V i r) (k + 1))) (by omega) (by omega) (sPQ_x _ _) (fun _ => rfl)
        rw [kb_PM_along_86, if_neg (by rw [nI_leI (by omega) (by omega)]; omega), (sPQ_1 hs).2, t5, Option.bind_some, rn_al (rSt_PQ hs h) ok hi hr hN h5 h8 k, kk_some, (sPQ_1 hs).2, a1, Option.bind_some, a2, Option.bind_some, kp_plus (by omega) s (fG_fsm _ _) (gV _ _), kk_some, sPQ_k hs, kPQ_p, kPQ_q, nI_1]
        exact g
    exact lp (x_t X i) 0 N σ (by omega) (by omega) (Or.inl rfl) (fun w => absurd w (by omega))
theorem rn_cell {X : tX} {σ : kS} {V : tF} (h : rSt X σ) (ok : x_ok X) {i : Nat} (hi : i < x_n X) {r : Nat} (hr : r < x_c X i) (hv : ∀ j, j < i → vR X V σ j) {N : Nat} (hN : 300 ≤ N) (gV : gF V) (ho : x_o X i < 16) : kf_PM_cell N σ (nI i) (nI r) = some ((), kPQ σ (ev (x_o X i) (x_t X i) (fA X V i r) (fB X V i r))) := by
  have hn := ok.1
  have tb := xt_b ok hi ho
  have cb := (xc_b ok hi).2
  obtain ⟨q1, q2, q3, q4, q5⟩ := h.2 i hi
  obtain ⟨g1, g2, g3, g4⟩ := x_lt ok hi ho
  have e3 : σ.2.2.1 3 i = nI (x_o X i) := by rw [q1]; exact if_neg (by omega)
  have e4 : σ.2.2.1 4 i = nI (x_a X i) := by rw [q2]; exact if_neg (by omega)
  have e5 : σ.2.2.1 5 i = nI (x_b X i) := by rw [q3]; exact if_neg (by omega)
  have t3 : mj_tab (σ.2.2.1 3) 50 (nI i) = some (nI (x_o X i)) := by rw [mj_tab_nI (by omega) (by omega), e3]
  have t4 : mj_tab (σ.2.2.1 4) 50 (nI i) = some (nI (x_a X i)) := by rw [mj_tab_nI (by omega) (by omega), e4]
  have t5 : mj_tab (σ.2.2.1 5) 50 (nI i) = some (nI (x_b X i)) := by rw [mj_tab_nI (by omega) (by omega), e5]
  have gA0 : fG (fA X V i r 0) := gV _ _
  obtain ⟨a1, a2⟩ := rA_rd ok hi hr hv ho (show 0 < x_t X i by omega)
  unfold kf_PM_cell kb_PM_cell_0
  rw [t4, Option.bind_some, t3, Option.bind_some]
  by_cases h4 : x_o X i < 4
  · obtain ⟨b1, b2⟩ := rB_rd ok hi hr hv (show x_o X i < 5 by omega) (show 0 < x_t X i by omega)
    rw [if_neg (by rw [show (4 : Int32) = nI 4 from rfl, nI_leI (by omega) (by omega)]; omega), rn_spA h ok hi hr hN h4 0, kk_some, t5, Option.bind_some, Option.bind_some, rn_spB h ok hi hr hN h4 0, kk_some, a1, Option.bind_some, a2, Option.bind_some, b1, Option.bind_some, b2, Option.bind_some]
    unfold kf_PM_two kb_PM_two_0 kb_PM_two_68 kb_PM_cell_349
    obtain e | e | e | e : x_o X i = 0 ∨ x_o X i = 1 ∨ x_o X i = 2 ∨ x_o X i = 3 := by omega
    · rw [e, if_pos (by decide), kp_plus (by omega) σ (gV _ _) (gV _ _), kk_some, kk_some]
      rfl
    · have np := kp_plus (N := N) (by omega) σ (gV (x_a X i) (x_u X i r 0)) (fG_neg (gV (x_b X i) (x_v X i r 0)))
      rw [pP_neg, pQ_neg] at np
      rw [e, if_neg (by decide), if_pos (by decide), zL_neg, np, kk_some, kk_some]
      rfl
    · rw [e, if_neg (by decide), if_neg (by decide), if_pos (by decide), kp_times (by omega) σ (gV _ _) (gV _ _), kk_some, kk_some]
      rfl
    · rw [e, if_neg (by decide), if_neg (by decide), if_neg (by decide), kp_over (by omega) σ (gV _ _) (gV _ _), kk_some, kk_some]
      rfl
  rw [if_pos (by rw [show (4 : Int32) = nI 4 from rfl, nI_leI (by omega) (by omega)]; omega)]
  unfold kb_PM_cell_349
  by_cases h4' : x_o X i = 4
  · rw [if_pos (show nI (x_o X i) = 4 by rw [h4']; rfl), rn_prod h ok hi hr hv hN gV h4', kk_some, h4']
    rfl
  rw [if_neg (fun q : nI (x_o X i) = 4 => h4' ((nI_eq (b := 4) (by omega) (by omega)).mp q))]
  by_cases h8 : x_o X i < 8
  · rw [if_neg (by rw [show (8 : Int32) = nI 8 from rfl, nI_leI (by omega) (by omega)]; omega), rn_along h ok hi hr hv hN gV (by omega) h8, kk_some]
  rw [if_pos (by rw [show (8 : Int32) = nI 8 from rfl, nI_leI (by omega) (by omega)]; omega)]
  obtain e | e | e | e | e | e | e | e : x_o X i = 8 ∨ x_o X i = 9 ∨ x_o X i = 10 ∨ x_o X i = 11 ∨ x_o X i = 12 ∨ x_o X i = 13 ∨ x_o X i = 14 ∨ x_o X i = 15 := by omega
  · have ix : 64 * nI (x_a X i) + nI (x_b X i) * nI (x_c X i) + nI r = 64 * nI (x_a X i) + nI (x_u X i r 0) := by
      rw [nI_mul, Int32.add_assoc, nI_add, xu_8 ok hi hr e]
    rw [e, if_pos (by decide), t5, Option.bind_some, rn_cells h ok hN hi, kk_some, ix, rn_load a1 a2, kk_some]
    rfl
  · rw [e, if_neg (by decide), if_pos (by decide), rn_tu h ok hi hr hN e 0, kk_some, rn_load a1 a2, kk_some]
    rfl
  · rw [xu_id ok hi hr (by omega) (by omega)] at a1 a2
    rw [e, if_neg (by decide), if_neg (by decide), if_neg (by decide), rn_load a1 a2, kk_some, if_pos (by decide)]
    unfold kb_PM_cell_291 kb_PM_cell_300 kb_PM_cell_322 kb_PM_cell_349
    rw [kk_letE, kPQ_p, zL_neg, ← pP_neg, kPQ_P0 (pQ_neg _), if_neg (by decide), if_neg (by decide)]
    rfl
  · rw [xu_id ok hi hr (by omega) (by omega)] at a1 a2
    have ee : ev 11 (x_t X i) (fA X V i r) (fB X V i r) = if pP (fA X V i r 0) < 0 then some 0 else fA X V i r 0 := rfl
    rw [e, if_neg (by decide), if_neg (by decide), if_neg (by decide), rn_load a1 a2, kk_some, if_neg (by decide), if_neg (by decide), ee]
    unfold kb_PM_cell_300 kb_PM_cell_322 kb_PM_cell_349
    rw [if_pos (by decide), if_neg (show ¬ nI 11 = 13 by decide), kPQ_p, zL_0]
    by_cases hp : pP (fA X V i r 0) < 0
    · have l0 := kp_least (N := N) (by omega) (kPQ σ (fA X V i r 0)) rg_0 rg_1
      rw [if_neg (by rw [zg_ge (rg_pP gA0) rg_0]; omega), if_pos hp, show (1 : Int64) = zL 1 from rfl, l0, kk_some, if_neg (by decide), kPQ_kPQ]
      have : fo 0 1 = some 0 := fnat_0
      rw [this]
    · rw [if_pos (by rw [zg_ge (rg_pP gA0) rg_0]; omega), if_neg hp]
  · rw [xu_id ok hi hr (by omega) (by omega)] at a1 a2
    have ee : ev 12 (x_t X i) (fA X V i r) (fB X V i r) = if pP (fA X V i r 0) < 0 then fneg (fA X V i r 0) else fA X V i r 0 := rfl
    rw [e, if_neg (by decide), if_neg (by decide), if_neg (by decide), rn_load a1 a2, kk_some, if_neg (by decide), if_pos (by decide), ee]
    unfold kb_PM_cell_291 kb_PM_cell_300 kb_PM_cell_322 kb_PM_cell_349
    rw [if_neg (show ¬ nI 12 = 11 by decide), if_neg (show ¬ nI 12 = 13 by decide), kk_letE, if_neg (show ¬ nI 12 = 11 by decide), if_neg (show ¬ nI 12 = 13 by decide), kPQ_p, zL_neg, ← pP_neg, kPQ_P0 (pQ_neg _), zL_0]
    by_cases hp : pP (fA X V i r 0) < 0
    · rw [if_neg (by rw [zg_ge (rg_pP gA0) rg_0]; omega), if_pos hp]
    · rw [if_pos (by rw [zg_ge (rg_pP gA0) rg_0]; omega), if_neg hp]
  · rw [xu_id ok hi hr (by omega) (by omega)] at a1 a2
    rw [e, if_neg (by decide), if_neg (by decide), if_neg (by decide), rn_load a1 a2, kk_some, if_neg (by decide), if_neg (by decide)]
    unfold kb_PM_cell_300 kb_PM_cell_322 kb_PM_cell_349
    rw [if_neg (by decide), if_pos (by decide), kPQ_p, kPQ_q, kp_times (by omega) _ (gV _ _) (gV _ _), kk_some, kPQ_kPQ]
    rfl
  · rw [xu_id ok hi hr (by omega) (by omega)] at a1 a2
    rw [e, if_neg (by decide), if_neg (by decide), if_neg (by decide), rn_load a1 a2, kk_some, if_neg (by decide), if_neg (by decide)]
    unfold kb_PM_cell_300 kb_PM_cell_322 kb_PM_cell_349
    rw [if_neg (by decide), if_neg (by decide)]
    rfl
  · have lp : ∀ d k fu s, d + k = x_t X i → d < fu → sPQ σ s → (0 < k → s = kPQ σ (fsm (fA X V i r) k)) → kb_PM_cell_201 N fu s (nI (x_a X i)) (64 * nI (x_a X i)) (zL (pP (fsm (fA X V i r) k))) (zL (pQ (fsm (fA X V i r) k))) (nI k) = some ((), kPQ σ (fsm (fA X V i r) (x_t X i))) := by
      intro d
      induction d with
      | zero =>
        intro k fu s hd hf hs hk
        obtain ⟨f', rfl⟩ : ∃ f', fu = f' + 1 := ⟨fu - 1, by omega⟩
        have : k = x_t X i := by omega
        subst this
        rw [kb_PM_cell_201, rn_cells (rSt_PQ hs h) ok hN g2, kk_some, if_pos (by rw [← (xu_15 e 0 0).2]; exact Int32.le_refl _), hk (by omega)]
        rfl
      | succ d ih =>
        intro k fu s hd hf hs hk
        obtain ⟨f', rfl⟩ : ∃ f', fu = f' + 1 := ⟨fu - 1, by omega⟩
        obtain ⟨a1, a2⟩ := rA_rd ok hi hr hv ho (show k < x_t X i by omega)
        rw [(xu_15 e r k).1] at a1 a2
        have g := ih (k + 1) f' (kPQ σ (fsm (fA X V i r) (k + 1))) (by omega) (by omega) (sPQ_x _ _) (fun _ => rfl)
        have xt := (xu_15 e 0 0).2
        rw [kb_PM_cell_201, rn_cells (rSt_PQ hs h) ok hN g2, kk_some, if_neg (by rw [nI_leI (by omega) (by omega)]; omega), (sPQ_1 hs).2, a1, Option.bind_some, a2, Option.bind_some]
        have fk : fA X V i r k = V (x_a X i) k := by show V _ (x_u X i r k) = _; rw [(xu_15 e r k).1]
        rw [kp_plus (by omega) s (fG_fsm _ _) (gV _ _), kk_some, sPQ_k hs, kPQ_p, kPQ_q, nI_1]
        exact g
    rw [if_neg (show ¬ nI (x_o X i) = 8 by rw [e]; decide), if_neg (show ¬ nI (x_o X i) = 9 by rw [e]; decide), if_pos (show nI (x_o X i) = 15 by rw [e]; rfl)]
    have := lp (x_t X i) 0 N σ (by omega) (by omega) (Or.inl rfl) (fun w => absurd w (by omega))
    have ee : ev (x_o X i) (x_t X i) (fA X V i r) (fB X V i r) = fsm (fA X V i r) (x_t X i) := by rw [e]; rfl
    rw [ee]
    exact this
