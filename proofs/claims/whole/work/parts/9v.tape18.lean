/-! THE TAPE, 17: the calls value and slope -/
theorem kfr_T {σ s : kS} (h : fAl σ s) : fTp σ s := kfr_mono h (by decide) (by decide) (by decide) (by decide)
theorem op_value (N : Nat) (hN : 4000 ≤ N) {X : tX} {ρ : tR} {τ : tS} {σ : kS} (h : R_Tp X ρ τ σ) (v w p : Int32) : ∃ r τ' s, kq_value N ρ τ v w p = some (r, τ') ∧ kf_PM_value N σ v w p = some (r, s) ∧ R_Tp X ρ τ' s ∧ fTp σ s := by
  have h0 := h
  obtain ⟨ok, V, fr, pm, rt, gV, xv, gr, hp, hc, hr⟩ := h
  have hn := ok.1
  unfold kq_value kf_PM_value kb_PM_value_0 kb_PM_value_35
  rcases v_in v (n := x_n X) (by omega) with ⟨i, hi, rfl⟩ | hv
  · have cb := (xc_b ok hi).2
    rw [cT_in hc.1 ok N hi, kk_some, tk_opt_s, rn_in hr.1 ok N hi, kk_some, if_neg (show ¬ (1 : Int32) = 0 by decide), c_has hc.1 ok N hi, kk_some, rn_cells hr.1 ok (by omega) hi, kk_some, r_has ok N hi, Option.bind_some]
    by_cases hw : 0 ≤ w.toInt ∧ w.toInt ≤ (x_c X i : Int) - 1
    · obtain ⟨c, hc1, rfl⟩ := nI_ofR (v := w) (m := x_c X i - 1) hw.1 (by omega)
      have hcc : c < x_c X i := by
        have := (xc_b ok hi).1
        omega
      rw [bI_t hw, if_neg (show ¬ (1 : Int32) = 0 by decide), if_neg (show ¬ (1 : Int32) = 0 by decide), c_side, Option.bind_some, r_part, Option.bind_some]
      by_cases hq : 0 ≤ p.toInt ∧ p.toInt ≤ 1
      · obtain ⟨τ', a1, a2, a3, a4, a5, a6⟩ := cT_reck (ρ := ρ) ok (show 300 ≤ N by omega) gV xv hi hc.1 hc.2.2.1 hc.2.1 hc.2.2.2.1
        obtain ⟨s, b1, b2, b3⟩ := rT_reck ok (show 300 ≤ N by omega) gV xv hi hr.1 hr.2.1
        have fa : fAl σ s := kfr_mono b2 (by decide) (by decide) (by decide) (by decide)
        obtain ⟨l1, l2⟩ := vR_rd ok hi (b3 i hi (Or.inl (Nat.le_refl _))) hcc
        have vc := a4 i hi (Or.inl (by omega)) c hcc
        have fa2 : fAl σ (kPQ s (V i c)) := kfr_trans fa (kfr_PQ (by decide) (by decide))
        refine ⟨if p = 0 then zL (pP (V i c)) else zL (pQ (V i c)), τ', kPQ s (V i c), ?_, ?_, ⟨ok, V, max fr (i + 1), pm, rt, gV, xv, gr, hp, ⟨a2, by have := hc.2.1; omega, a3, a4, fun j hj => ?_, ?_⟩, ?_⟩, kfr_T fa2⟩
        · rw [bI_t hq, if_neg (show ¬ (1 : Int32) = 0 by decide), a1, kk_some, cS_len a2 ok hi, mj_tabL_nI hcc (by omega), Option.bind_some, vc, kf_sideOf N (gV _ _), Option.bind_some]
        · rw [bI_t hq, if_neg (show ¬ (1 : Int32) = 0 by decide), b1, kk_some, rn_load l1 l2, kk_some, kp_told, kk_some]
        · rw [a6]
          exact hc.2.2.2.2.1 j hj
        · rw [a5]
          exact hc.2.2.2.2.2
        · exact rTp_al fa2 (fun j hj ho => vR_PQ (sPQ_x _ _) (b3 j hj (Or.inr ho))) hr
      · rw [bI_f hq, if_pos rfl, if_pos rfl]
        exact ⟨_, _, _, rfl, rfl, h0, kfr_refl _ _ _ _ _⟩
    · rw [bI_f hw, if_pos rfl, if_pos rfl]
      exact ⟨_, _, _, rfl, rfl, h0, kfr_refl _ _ _ _ _⟩
  · rw [cT_out hc.1 ok N hv, kk_some, tk_opt_n, rn_out hr.1 ok N hv, kk_some, if_pos rfl]
    exact ⟨_, _, _, rfl, rfl, h0, kfr_refl _ _ _ _ _⟩
theorem r_by {X : tX} (ok : x_ok X) (N : Nat) {i : Nat} (hi : i < x_n X) (v : Int32) : kf_PM_isIn N v.toInt64 0 (nI i).toInt64 = some (bI (0 ≤ v.toInt ∧ v.toInt ≤ (i : Int))) := by
  have hn := ok.1
  rw [n2l (by omega), show (0 : Int64) = zL 0 from rfl, pm_isIn N v rg_0 (rg_nat (by omega))]
theorem op_slope (N : Nat) (hN : 4000 ≤ N) {X : tX} {ρ : tR} {τ : tS} {σ : kS} (h : R_Tp X ρ τ σ) (v b w p : Int32) : ∃ r τ' s, kq_slope N ρ τ v b w p = some (r, τ') ∧ kf_PM_slope N σ v b w p = some (r, s) ∧ R_Tp X ρ τ' s ∧ fTp σ s := by
  have h0 := h
  obtain ⟨ok, V, fr, pm, rt, gV, xv, gr, hp, hc, hr⟩ := h
  have hn := ok.1
  unfold kq_slope kf_PM_slope kb_PM_slope_0 kb_PM_slope_47
  rcases v_in v (n := x_n X) (by omega) with ⟨i, hi, rfl⟩ | hv
  · rw [cT_in hc.1 ok N hi, kk_some, rn_in hr.1 ok N hi, kk_some, if_neg (show ¬ (1 : Int32) = 0 by decide), r_by ok N hi, Option.bind_some]
    by_cases hb : 0 ≤ b.toInt ∧ b.toInt ≤ (i : Int)
    · obtain ⟨j, hj1, rfl⟩ := nI_ofR (v := b) (m := i) hb.1 hb.2
      have hj : j < x_n X := by omega
      have cb := (xc_b ok hj).2
      rw [bI_t hb, if_neg (show ¬ (1 : Int32) = 0 by decide), cT_in hc.1 ok N hj, kk_some, tk_opt_s, tk_opt_s, if_neg (by rw [nI_ltI (by omega) (by omega)]; omega), c_has hc.1 ok N hj, kk_some, rn_cells hr.1 ok (by omega) hj, kk_some, r_has ok N hj, Option.bind_some]
      by_cases hw : 0 ≤ w.toInt ∧ w.toInt ≤ (x_c X j : Int) - 1
      · obtain ⟨c, hc1, rfl⟩ := nI_ofR (v := w) (m := x_c X j - 1) hw.1 (by omega)
        have hcc : c < x_c X j := by
          have := (xc_b ok hj).1
          omega
        rw [bI_t hw, if_neg (show ¬ (1 : Int32) = 0 by decide), if_neg (show ¬ (1 : Int32) = 0 by decide), c_side, Option.bind_some, r_part, Option.bind_some]
        by_cases hq : 0 ≤ p.toInt ∧ p.toInt ≤ 1
        · obtain ⟨τ1, a1, a2, a3, a4, a5, a6⟩ := cT_reck (ρ := ρ) ok (show 300 ≤ N by omega) gV xv hi hc.1 hc.2.2.1 hc.2.1 hc.2.2.2.1
          obtain ⟨τ', d1, d2, d3, d4⟩ := cT_sum (ρ := ρ) ok (show 300 ≤ N by omega) gV hi hj1 a2 (fun q hq => a4 q (by omega) (Or.inl (by omega)))
          obtain ⟨s, b1, b2, b3, b4, b5⟩ := rT_slopes ok hN gV xv hi hr.1 hr.2.1 hj1 (Or.inl rfl)
          obtain ⟨l1, l2⟩ := b5 j hj1 c hcc
          generalize hx : gsl X V (i - j) i (S0 i) j c = x at l1 l2
          have gx : fG x := by rw [← hx]; exact b4 _ _
          have sc := d4 j hj c hcc
          rw [hx] at sc
          have kx : kL (kL s 0 (zL (pP x))) 1 (zL (pQ x)) = kPQ s x := rfl
          have fa2 : fAl σ (kPQ s x) := kfr_trans b2 (kfr_PQ (by decide) (by decide))
          refine ⟨if p = 0 then zL (pP x) else zL (pQ x), τ', kPQ s x, ?_, ?_, ⟨ok, V, max fr (i + 1), pm, rt, gV, xv, gr, hp, ⟨cSt_m a2 d2, by have := hc.2.1; omega, by rw [d2.1]; exact a3, fun q hq w c hc => by rw [d3]; exact a4 q hq w c hc, fun j hj => ?_, ?_⟩, ?_⟩, kfr_T fa2⟩
          · rw [bI_t hq, if_neg (show ¬ (1 : Int32) = 0 by decide), a1, kk_some, d1, kk_some, cS_len a2 ok hj, mj_tabL_nI hcc (by omega), Option.bind_some, sc, kf_sideOf N gx, Option.bind_some]
          · rw [bI_t hq, if_neg (show ¬ (1 : Int32) = 0 by decide), b1, kk_some, n64, mj_tabL_nI (by omega) (by omega), Option.bind_some, l1, kk_letE, kL_3, mj_tabL_nI (by omega) (by omega), Option.bind_some, l2, kk_letE, kx, kp_told, kk_some]
          · rw [d2.2.2.1, a6]
            exact hc.2.2.2.2.1 j hj
          · rw [d2.2.1, a5]
            exact hc.2.2.2.2.2
          · exact rTp_al fa2 (fun j hj ho => vR_PQ (sPQ_x _ _) (b3 j hj (Or.inr ho))) hr
        · rw [bI_f hq, if_pos rfl, if_pos rfl]
          exact ⟨_, _, _, rfl, rfl, h0, kfr_refl _ _ _ _ _⟩
      · rw [bI_f hw, if_pos rfl, if_pos rfl]
        exact ⟨_, _, _, rfl, rfl, h0, kfr_refl _ _ _ _ _⟩
    · rw [bI_f hb, if_pos (show (0 : Int32) = 0 from rfl)]
      refine ⟨_, _, _, ?_, rfl, h0, kfr_refl _ _ _ _ _⟩
      rcases v_in b (n := x_n X) (by omega) with ⟨j, hj, rfl⟩ | hb2
      · rw [nI_toInt (by omega)] at hb
        rw [cT_in hc.1 ok N hj, kk_some, tk_opt_s, tk_opt_s, if_pos (by rw [nI_ltI (by omega) (by omega)]; omega)]
      · rw [cT_out hc.1 ok N hb2, kk_some, tk_opt_s, tk_opt_n]
  · rw [cT_out hc.1 ok N hv, kk_some, rn_out hr.1 ok N hv, kk_some, if_pos rfl]
    refine ⟨_, _, _, ?_, rfl, h0, kfr_refl _ _ _ _ _⟩
    rcases v_in b (n := x_n X) (by omega) with ⟨j, hj, rfl⟩ | hb2
    · rw [cT_in hc.1 ok N hj, kk_some, tk_opt_n]
    · rw [cT_out hc.1 ok N hb2, kk_some, tk_opt_n]
