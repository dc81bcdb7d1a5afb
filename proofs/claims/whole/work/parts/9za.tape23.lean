/-! THE TAPE, 22: the call train -/
theorem op_train (N : Nat) (hN : 4000 ≤ N) {X : tX} {ρ : tR} {τ : tS} {σ : kS} (h : R_Tp X ρ τ σ) (v w : Int32) : ∃ r τ' s, kf_Tp_trainSteps N ρ τ v w = some (r, τ') ∧ kf_PM_train N σ v w = some (r, s) ∧ R_Tp X ρ τ' s ∧ fTp σ s := by
  have h0 := h
  obtain ⟨ok, V, fr, pm, rt, gV, xv, gr, hp, hc, hr⟩ := h
  have hn := ok.1
  unfold kf_Tp_trainSteps kb_Tp_trainSteps_0 kb_Tp_trainSteps_20 kf_PM_train kb_PM_train_0 kb_PM_train_20
  rcases v_in v (n := x_n X) (by omega) with ⟨m, hm, rfl⟩ | hv
  · have e0 : (0 : Int32).toInt = 0 := by decide
    have e20 : (20 : Int32).toInt = 20 := by decide
    rw [cT_in hc.1 ok N hm, kk_some, tk_opt_s, rn_in hr.1 ok N hm, kk_some, if_neg (show ¬ (1 : Int32) = 0 by decide), show (0 : Int64) = zL 0 from rfl, show (20 : Int64) = zL 20 from rfl, pm_isIn N w rg_0 ⟨by decide, by decide⟩, Option.bind_some]
    by_cases hw : 0 ≤ w.toInt ∧ w.toInt ≤ 20
    · obtain ⟨q, hq, rfl⟩ := nI_ofR (v := w) (m := 20) hw.1 hw.2
      have s3 := (ok.2 m hm).2.1.1
      rw [bI_t hw, if_neg (show ¬ (1 : Int32) = 0 by decide), if_neg (show ¬ nI q < 0 by rw [show (0 : Int32) = nI 0 from rfl, nI_ltI (by omega) (by omega)]; omega), if_pos (show nI q ≤ 20 by rw [show (20 : Int32) = nI 20 from rfl, nI_leI (by omega) (by omega)]; omega), (hc.1.2.2 m hm).1.1, mj_tab_nI (by omega) (by omega), Option.bind_some, (hr.1.2 m hm).2.2.2.1]
      by_cases hs : x_s X m = 0
      · rw [if_pos (show nI (x_s X m) = 0 by rw [hs]; rfl), if_pos (show nI (x_s X m) ≤ 0 by rw [hs]; decide)]
        have lp : ∀ d k f1 f2 τ1 s1 V1 fr1, d + k = q → d < f1 → d < f2 → gF V1 → xV X V1 → cTp X V1 fr1 pm rt ρ τ1 → rTp X V1 pm rt s1 → fAl σ s1 → ∃ r τ' s, kb_Tp_trainSteps_38 N ρ f1 τ1 (nI m) (nI q) (nI k) = some (r, τ') ∧ kb_PM_train_36 N f2 s1 (nI m) (nI q) (nI k) = some (r, s) ∧ R_Tp X ρ τ' s ∧ fAl σ s := by
          intro d
          induction d with
          | zero =>
            intro k f1 f2 τ1 s1 V1 fr1 hd hf1 hf2 gV1 xv1 hc1 hr1 hfr
            obtain ⟨f1', rfl⟩ : ∃ f', f1 = f' + 1 := ⟨f1 - 1, by omega⟩
            obtain ⟨f2', rfl⟩ : ∃ f', f2 = f' + 1 := ⟨f2 - 1, by omega⟩
            have : k = q := by omega
            subst this
            have a := c_wild (ρ := ρ) ok (show 300 ≤ N by omega) gV1 hc1.1 hc1.2.2.2.2.1 hp (fun j hj ho => hc1.2.2.2.1 j hj (Or.inr ho))
            have b := r_wild ok (show 300 ≤ N by omega) gV1 hr1 hp
            refine ⟨nI (wcn X V1 pm (x_n X)), τ1, s1, ?_, ?_, ⟨ok, V1, fr1, pm, rt, gV1, xv1, gr, hp, hc1, hr1⟩, hfr⟩
            · rw [kb_Tp_trainSteps_38, if_pos (Int32.le_refl _), a, kk_some]
            · rw [kb_PM_train_36, if_pos (Int32.le_refl _), b]
          | succ d ih =>
            intro k f1 f2 τ1 s1 V1 fr1 hd hf1 hf2 gV1 xv1 hc1 hr1 hfr
            obtain ⟨f1', rfl⟩ : ∃ f', f1 = f' + 1 := ⟨f1 - 1, by omega⟩
            obtain ⟨f2', rfl⟩ : ∃ f', f2 = f' + 1 := ⟨f2 - 1, by omega⟩
            obtain ⟨τ2, a1, a2, a3, a4, a5, a6⟩ := cT_reck (ρ := ρ) ok (show 300 ≤ N by omega) gV1 xv1 hm hc1.1 hc1.2.2.1 hc1.2.1 hc1.2.2.2.1
            obtain ⟨τ3, b1, b2, b3, b4⟩ := cT_sum (ρ := ρ) (b := 0) ok (show 300 ≤ N by omega) gV1 hm (by omega) a2 (fun q hq => a4 q (by omega) (Or.inl (by omega)))
            obtain ⟨s2, c1, c2, c3, c4, c5⟩ := rT_slopes (b := 0) ok hN gV1 xv1 hm hr1.1 hr1.2.1 (by omega) (Or.inr ⟨rfl, rfl⟩)
            have hr2 : rTp X V1 pm rt s2 := rTp_al c2 (fun j hj ho => c3 j hj (Or.inr ho)) hr1
            generalize hS : gsl X V1 (m - 0) m (S0 m) = S at b4 c4 c5
            have hz : ∀ j, m < j → S j = fun _ => some 0 := fun j hj => by
              rw [← hS, gsl_hi ok (m - 0) m (S0 m) j hm (by omega)]
              funext c
              exact if_neg (by omega)
            obtain ⟨τ4, d1, d2, d3, d4, d5⟩ := c_mv (ρ := ρ) (pm := pm) (rt := rt) ok (show 300 ≤ N by omega) gV1 c4 gr (cSt_m a2 b2) (by rw [b2.2.1, a5]; exact hc1.2.2.2.2.2) (fun j hj => by rw [b2.2.2.1, a6]; exact hc1.2.2.2.2.1 j hj) hp b4 (fun j hj ho c hc' => by rw [b3]; exact a4 j hj (Or.inr ho) c hc')
            obtain ⟨s3', e1, e2, e3⟩ := r_mv ok (show 300 ≤ N by omega) gV1 c4 gr hr2 hp hm c5 hz (nI q) (nI k) (kb_PM_train_36 N f2')
            obtain ⟨V2, hV2⟩ : ∃ V2, V2 = VV X (Lst pm rt V1 S (x_n X) 0) (x_n X) := ⟨_, rfl⟩
            have gV2 : gF V2 := by rw [hV2]; exact gF_VV (gF_L gV1 _ _) _
            have xv2 : xV X V2 := by rw [hV2]; exact xV_VV ok _
            have lf2 : ∀ j, x_o X j = 16 → V2 j = Lst pm rt V1 S (x_n X) 0 j := fun j ho => by rw [hV2]; exact VV_leaf ho _
            have hc4 : cTp X V2 0 pm rt ρ τ4 := by
              refine ⟨⟨hc1.1.1, ?_, fun j hj => ?_⟩, by omega, ?_, fun j hj w c hc' => ?_, fun j hj => ?_, ?_⟩
              · rw [d2, upd_at, if_neg (by decide)]
                exact (cSt_m a2 b2).2.1
              · rw [d4]
                exact (cSt_m a2 b2).2.2 j hj
              · rw [d2, upd_at, if_pos rfl]
                rfl
              · have ho : x_o X j = 16 := by omega
                rw [lf2 j ho]
                exact d5 j hj ho c hc'
              · rw [d4, b2.2.2.1, a6]
                exact hc1.2.2.2.2.1 j hj
              · rw [d3, b2.2.1, a5]
                exact hc1.2.2.2.2.2
            have hr4 : rTp X V2 pm rt s3' := by
              refine ⟨rSt_rk e2 hr2.1, fun j hj ho c hc' => ?_, fun j hj => ?_, (e2.2.1 18 (by decide)).trans hr2.2.2.2.1, (e2.2.1 19 (by decide)).trans hr2.2.2.2.2⟩
              · rw [lf2 j ho]
                exact e3 j hj ho c hc'
              · rw [e2.2.2.1 8 (by decide)]
                exact hr2.2.2.1 j hj
            obtain ⟨r, τ', s, p1, p2, p3, p4⟩ := ih (k + 1) f1' f2' τ4 s3' V2 0 (by omega) (by omega) (by omega) gV2 xv2 hc4 hr4 (kfr_trans hfr (kfr_trans c2 (kfr_mono e2 (by decide) (by decide) (by decide) (by decide))))
            refine ⟨r, τ', s, ?_, ?_, p3, p4⟩
            · rw [kb_Tp_trainSteps_38, if_neg (by rw [nI_leI (by omega) (by omega)]; omega), a1, kk_some, show (0 : Int32) = nI 0 from rfl, b1, kk_some, d1, kk_some, nI_1]
              exact p1
            · rw [kb_PM_train_36, if_neg (by rw [nI_leI (by omega) (by omega)]; omega), c1, kk_some, e1, nI_1]
              exact p2
        obtain ⟨r, τ', s, p1, p2, p3, p4⟩ := lp q 0 N N τ σ V fr (by omega) (by omega) (by omega) gV xv hc hr (kfr_refl _ _ _ _ _)
        exact ⟨r, τ', s, p1, p2, p3, kfr_T p4⟩
      · rw [if_neg (show ¬ nI (x_s X m) = 0 by rw [show (0 : Int32) = nI 0 from rfl, nI_eq (by omega) (by omega)]; exact hs), if_neg (show ¬ nI (x_s X m) ≤ 0 by rw [show (0 : Int32) = nI 0 from rfl, nI_leI (by omega) (by omega)]; omega)]
        exact ⟨_, _, _, rfl, rfl, h0, kfr_refl _ _ _ _ _⟩
    · rw [bI_f hw, if_pos (show (0 : Int32) = 0 from rfl)]
      refine ⟨_, _, _, ?_, rfl, h0, kfr_refl _ _ _ _ _⟩
      by_cases hw0 : w < 0
      · rw [if_pos hw0]
      · rw [if_neg hw0, if_neg]
        intro q
        rw [i32lt, e0] at hw0
        rw [Int32.le_iff_toInt_le, e20] at q
        omega
  · rw [cT_out hc.1 ok N hv, kk_some, tk_opt_n, rn_out hr.1 ok N hv, kk_some, if_pos rfl]
    exact ⟨_, _, _, rfl, rfl, h0, kfr_refl _ _ _ _ _⟩
