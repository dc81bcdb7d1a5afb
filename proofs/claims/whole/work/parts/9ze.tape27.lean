/-! THE TAPE, 26: the reference makes an act -/
theorem r_fit2 {X : tX} (ok : x_ok X) {N : Nat} (hN : 300 ≤ N) {σ : kS} (h : rSt X σ) {o a j : Nat} (h4 : o < 4) (ha : a < x_n X) (hj : j < x_n X) : ∃ s, fFt σ s ∧ ((x_mk X o a (nI j) = none ∧ kf_PM_fits N σ (nI o) (nI a) (nI j) = some (0, s)) ∨ ∃ b z P, x_mk X o a (nI j) = some (b, z, P) ∧ kf_PM_fits N σ (nI o) (nI a) (nI j) = some (1, s) ∧ mkd z P s) := by
  have hn := ok.1
  have sa := (ok.2 a ha).2.1
  have sb := (ok.2 j hj).2.1
  obtain ⟨n, hnm⟩ : ∃ n, n = max (x_s X a) (x_s X j) := ⟨_, rfl⟩
  have n3' : n ≤ 3 := by have := sa.1; have := sb.1; omega
  have e1 : ∀ r s, (kk_call (kf_PM_spreads N σ (nI a) (nI j)) fun r8 s8 => if r8 = 0 ∨ r8 = 1 then some (r8, s8) else none) = some (r, s) → kf_PM_fits N σ (nI o) (nI a) (nI j) = some (r, s) := fun r s q => by
    unfold kf_PM_fits kb_PM_fits_0
    rw [if_neg (by rw [show (4 : Int32) = nI 4 from rfl, nI_leI (by omega) (by omega)]; omega)]
    exact q
  have e2 : kf_PM_spreads N σ (nI a) (nI j) = kb_PM_spreads_34 N N σ (nI a) (nI j) (nI n) 1 := by
    unfold kf_PM_spreads kb_PM_spreads_0 kb_PM_spreads_30
    rw [mj_tab_nI (by omega) (by omega), Option.bind_some, mj_tab_nI (by omega) (by omega), Option.bind_some, (h.2 a ha).2.2.2.1, (h.2 j hj).2.2.2.1]
    have := sa.1
    have := sb.1
    by_cases e : x_s X a ≤ x_s X j
    · rw [if_pos (by rw [nI_leI (by omega) (by omega)]; exact e), Option.bind_some, hnm, Nat.max_eq_right e]
    · rw [if_neg (by rw [nI_leI (by omega) (by omega)]; exact e), Option.bind_some, hnm, Nat.max_eq_left (by omega)]
  obtain ⟨g1, g2⟩ := r_sprd ok (N := N) ha hj n3' n 1 N σ (by omega) (by omega) (by omega) h (fun q h1 h2 => by omega)
  have mk : x_mk X o a (nI j) = if spd (x_P X a 0) (x_P X j 0) ∧ spd (x_P X a 1) (x_P X j 1) ∧ spd (x_P X a 2) (x_P X j 2) then some (j, max (x_s X a) (x_s X j), fun k => max (x_P X a k) (x_P X j k)) else none := by
    unfold x_mk
    rw [if_pos h4, nI_clamp (by omega)]
  by_cases hc : spd (x_P X a 0) (x_P X j 0) ∧ spd (x_P X a 1) (x_P X j 1) ∧ spd (x_P X a 2) (x_P X j 2)
  · obtain ⟨s', p1, p2, p3⟩ := g1 (fun q h1 h2 => by
      obtain rfl | rfl | rfl : q = 1 ∨ q = 2 ∨ q = 3 := by omega
      · exact hc.2.2
      · exact hc.2.1
      · exact hc.1)
    refine ⟨s', p2, Or.inr ⟨j, n, _, by rw [mk, if_pos hc, hnm], e1 1 s' ?_, p3⟩⟩
    rw [e2, show (1 : Int32) = nI 1 from rfl, p1, kk_some, if_pos (by decide)]
    rfl
  · obtain ⟨s', p1, p2⟩ := g2 (by
      have nt : ∀ q, 1 ≤ q → q ≤ 3 → ¬ spd (x_P X a (3 - q)) (x_P X j (3 - q)) → q ≤ n := fun q h1 h2 h3 => by
        refine Nat.le_of_not_lt (fun h4 => h3 (Or.inl ?_))
        rw [sa.2.2.1 (3 - q) (by omega), sb.2.2.1 (3 - q) (by omega)]
      by_cases c0 : spd (x_P X a 0) (x_P X j 0)
      · by_cases c1 : spd (x_P X a 1) (x_P X j 1)
        · have c2 : ¬ spd (x_P X a 2) (x_P X j 2) := fun w => hc ⟨c0, c1, w⟩
          exact ⟨1, by omega, nt 1 (by omega) (by omega) c2, c2⟩
        · exact ⟨2, by omega, nt 2 (by omega) (by omega) c1, c1⟩
      · exact ⟨3, by omega, nt 3 (by omega) (by omega) c0, c0⟩)
    refine ⟨s', p2, Or.inl ⟨by rw [mk, if_neg hc], e1 0 s' ?_⟩⟩
    rw [e2, show (1 : Int32) = nI 1 from rfl, p1, kk_some, if_pos (by decide)]
theorem r_fit4 {X : tX} (ok : x_ok X) {N : Nat} {σ : kS} (h : rSt X σ) {a j : Nat} (ha : a < x_n X) (hj : j < x_n X) : ∃ s, fFt σ s ∧ ((x_mk X 4 a (nI j) = none ∧ kf_PM_fits N σ 4 (nI a) (nI j) = some (0, s)) ∨ ∃ b z P, x_mk X 4 a (nI j) = some (b, z, P) ∧ kf_PM_fits N σ 4 (nI a) (nI j) = some (1, s) ∧ mkd z P s) := by
  have hn := ok.1
  have sa := (ok.2 a ha).2.1.1
  have sb := (ok.2 j hj).2.1.1
  have pa := (ok.2 a ha).2.1.2.1
  have pb := (ok.2 j hj).2.1.2.1
  have mk : x_mk X 4 a (nI j) = if x_s X a = 2 ∧ x_s X j = 2 ∧ x_P X a 2 = x_P X j 1 then some (j, 2, m3 1 (x_P X a 1) (x_P X j 2)) else none := by
    unfold x_mk
    rw [if_neg (by omega), if_pos rfl, nI_clamp (by omega)]
  have two : ∀ x : Nat, x ≤ 3 → (nI x = 2 ↔ x = 2) := fun x hx => by rw [show (2 : Int32) = nI 2 from rfl, nI_eq (by omega) (by omega)]
  unfold kf_PM_fits kb_PM_fits_0 kb_PM_fits_52
  rw [mk, if_pos (show (4 : Int32) ≤ 4 by decide), if_pos (show (4 : Int32) = 4 from rfl), mj_tab_nI (by omega) (by omega), Option.bind_some, (h.2 a ha).2.2.2.1]
  by_cases c1 : x_s X a = 2
  · rw [if_pos ((two _ sa).mpr c1), mj_tab_nI (by omega) (by omega), Option.bind_some, (h.2 j hj).2.2.2.1]
    by_cases c2 : x_s X j = 2
    · have sd : ∀ s, rSt X s → ∀ i k, i < x_n X → x_s X i = 2 → k < 2 → kf_PM_sideOf N s (nI i) (nI k) = some (nI (x_P X i (1 + k)), s) := fun s hs i k hi h2 hk => by
        rw [rn_side hs ok N hi (by omega), if_pos (by omega), h2]
      have sd1 := sd σ h a 1 ha c1 (by omega)
      have sd2 := sd σ h j 0 hj c2 (by omega)
      have p1 := pa 2 (by omega)
      have p2 := pb 1 (by omega)
      rw [if_pos ((two _ sb).mpr c2), show (1 : Int32) = nI 1 from rfl, sd1, kk_some, show (0 : Int32) = nI 0 from rfl, sd2, kk_some]
      by_cases c3' : x_P X a 2 = x_P X j 1
      · obtain ⟨s1, hs1⟩ : ∃ s1, s1 = kI σ 11 2 := ⟨_, rfl⟩
        have f1 : fFt σ s1 := by rw [hs1]; exact kfr_I (by decide)
        have sd3 := sd s1 (rSt_ft f1 h) a 0 ha c1 (by omega)
        obtain ⟨s2, hs2⟩ : ∃ s2, s2 = kA s1 12 0 (nI (x_P X a 1)) := ⟨_, rfl⟩
        have f2 : fFt σ s2 := by rw [hs2]; exact kfr_trans f1 (kfr_A (by decide))
        have sd4 := sd s2 (rSt_ft f2 h) j 1 hj c2 (by omega)
        refine ⟨kA s2 12 1 (nI (x_P X j 2)), kfr_trans f2 (kfr_A (by decide)), Or.inr ⟨j, 2, _, if_pos ⟨c1, c2, c3'⟩, ?_, ?_, fun k hk => ?_⟩⟩
        · rw [if_pos (show nI (x_P X a (1 + 1)) = nI (x_P X j (1 + 0)) by show nI (x_P X a 2) = nI (x_P X j 1); rw [c3']), kk_letE, ← hs1, sd3, kk_some]
          show mj_gd (nI 0) 3 (kk_let (kA s1 12 0 (nI (x_P X a 1))) _) = _
          rw [mj_gd_nI (by omega) (by omega), kk_letE, ← hs2, sd4, kk_some]
          rfl
        · rw [hs2, hs1]
          rfl
        · rw [kA_3, hs2, kA_3]
          obtain rfl | rfl : k = 0 ∨ k = 1 := by omega
          · rfl
          · rfl
      · refine ⟨σ, kfr_refl _ _ _ _ _, Or.inl ⟨if_neg (fun w => c3' w.2.2), ?_⟩⟩
        rw [if_neg (show ¬ nI (x_P X a (1 + 1)) = nI (x_P X j (1 + 0)) by rw [nI_eq (by show x_P X a 2 < _; omega) (by show x_P X j 1 < _; omega)]; exact c3')]
        rfl
    · rw [if_neg (fun w => c2 ((two _ sb).mp w))]
      exact ⟨σ, kfr_refl _ _ _ _ _, Or.inl ⟨if_neg (fun w => c2 w.2.1), rfl⟩⟩
  · rw [if_neg (fun w => c1 ((two _ sa).mp w))]
    exact ⟨σ, kfr_refl _ _ _ _ _, Or.inl ⟨if_neg (fun w => c1 w.1), rfl⟩⟩
theorem r_fit8 {X : tX} (ok : x_ok X) {N : Nat} (hN : 300 ≤ N) {σ : kS} (h : rSt X σ) {o a : Nat} (h5 : 5 ≤ o) (h9 : o < 9) (ha : a < x_n X) (v : Int32) : ∃ s, fFt σ s ∧ ((x_mk X o a v = none ∧ kf_PM_fits N σ (nI o) (nI a) v = some (0, s)) ∨ ∃ b z P, x_mk X o a v = some (b, z, P) ∧ kf_PM_fits N σ (nI o) (nI a) v = some (1, s) ∧ mkd z P s) := by
  have hn := ok.1
  have sa := (ok.2 a ha).2.1.1
  have pa := (ok.2 a ha).2.1.2.1
  have sk : ∀ (s : kS), rSt X s → ∀ b, b < x_s X a → ∃ s', kb_PM_fits_158 N s (nI a) (nI b) = some (1, s') ∧ fFt s s' ∧ mkd (x_s X a - 1) (m3 1 (if 3 - x_s X a + b = 0 then x_P X a 1 else x_P X a 0) (if 3 - x_s X a + b = 2 then x_P X a 1 else x_P X a 2)) s' := by
    intro s hs b hb
    obtain ⟨s', p1, p2, p3, p4⟩ := r_skip ok (N := N) ha hb (x_s X a) 0 N (kI s 11 0) (by omega) (by omega) (rSt_ft (kfr_I (by decide)) hs) (by rw [if_pos (by omega)]; rfl) (fun q hq => by rw [if_pos (by omega)] at hq; omega)
    refine ⟨s', ?_, kfr_trans (kfr_I (by decide)) p2, p3, fun k hk => ?_⟩
    · unfold kb_PM_fits_158
      rw [kk_letE]
      exact p1
    · rw [p4 k hk, skp_P (A := x_P X a) sa hb hk]
  unfold kf_PM_fits kb_PM_fits_0 kb_PM_fits_145 kb_PM_fits_147
  rw [if_pos (by rw [show (4 : Int32) = nI 4 from rfl, nI_leI (by omega) (by omega)]; omega), if_neg (by rw [show (4 : Int32) = nI 4 from rfl, nI_eq (by omega) (by omega)]; omega), if_neg (by rw [show (9 : Int32) = nI 9 from rfl, nI_leI (by omega) (by omega)]; omega)]
  have t6 : mj_tab (σ.2.2.1 6) 50 (nI a) = some (nI (x_s X a)) := by rw [mj_tab_nI (by omega) (by omega), (h.2 a ha).2.2.2.1]
  by_cases h8 : o = 8
  · have mk : x_mk X o a v = if x_s X a ≠ 0 ∧ 0 ≤ v.toInt ∧ v.toInt ≤ (x_P X a (3 - x_s X a) : Int) - 1 then some (v.toNatClampNeg, x_s X a - 1, m3 1 (if 3 - x_s X a = 0 then x_P X a 1 else x_P X a 0) (if 3 - x_s X a = 2 then x_P X a 1 else x_P X a 2)) else none := by
      unfold x_mk
      rw [if_neg (by omega), if_neg (by omega), if_neg (by omega), if_pos h8]
    rw [mk, if_pos (show nI o = 8 by rw [h8]; rfl), t6, Option.bind_some]
    by_cases c0 : x_s X a = 0
    · rw [if_pos (show nI (x_s X a) = 0 by rw [c0]; rfl)]
      exact ⟨σ, kfr_refl _ _ _ _ _, Or.inl ⟨if_neg (fun w => w.1 c0), rfl⟩⟩
    · have p0 := pa (3 - x_s X a) (by omega)
      have sd : kf_PM_sideOf N σ (nI a) 0 = some (nI (x_P X a (3 - x_s X a)), σ) := by
        have := rn_side h ok N (k := 0) ha (by omega)
        rw [if_pos (by omega)] at this
        exact this
      rw [if_neg (show ¬ nI (x_s X a) = 0 by rw [show (0 : Int32) = nI 0 from rfl, nI_eq (by omega) (by omega)]; exact c0), sd, kk_some, nI_m1 (by omega), show (0 : Int64) = zL 0 from rfl, pm_isIn N v rg_0 ⟨by omega, by omega⟩, Option.bind_some]
      by_cases hc : 0 ≤ v.toInt ∧ v.toInt ≤ (x_P X a (3 - x_s X a) : Int) - 1
      · obtain ⟨s', q1, q2, q3⟩ := sk σ h 0 (by omega)
        rw [bI_t hc, if_neg (show ¬ (1 : Int32) = 0 by decide), if_pos (show nI o = 8 by rw [h8]; rfl)]
        exact ⟨s', q2, Or.inr ⟨_, _, _, if_pos ⟨c0, hc⟩, q1, q3⟩⟩
      · rw [bI_f hc, if_pos rfl]
        exact ⟨σ, kfr_refl _ _ _ _ _, Or.inl ⟨if_neg (fun w => hc w.2), rfl⟩⟩
  · have mk : x_mk X o a v = if 0 ≤ v.toInt ∧ v.toInt ≤ (x_s X a : Int) - 1 then some (v.toNatClampNeg, x_s X a - 1, m3 1 (if 3 - x_s X a + v.toNatClampNeg = 0 then x_P X a 1 else x_P X a 0) (if 3 - x_s X a + v.toNatClampNeg = 2 then x_P X a 1 else x_P X a 2)) else none := by
      unfold x_mk
      rw [if_neg (by omega), if_neg (by omega), if_pos (by omega)]
    have n8 : ¬ nI o = 8 := by rw [show (8 : Int32) = nI 8 from rfl, nI_eq (by omega) (by omega)]; exact h8
    rw [mk, if_neg n8, t6, Option.bind_some, nI_m1 (by omega), show (0 : Int64) = zL 0 from rfl, pm_isIn N v rg_0 ⟨by omega, by omega⟩, Option.bind_some]
    by_cases hc : 0 ≤ v.toInt ∧ v.toInt ≤ (x_s X a : Int) - 1
    · obtain ⟨w1, w2, w3⟩ := v_clamp (v := v) (m := x_s X a - 1) hc.1 (by omega) (by omega)
      obtain ⟨s', q1, q2, q3⟩ := sk σ h v.toNatClampNeg (by omega)
      rw [bI_t hc, if_neg (show ¬ (1 : Int32) = 0 by decide), if_neg n8]
      rw [← w2] at q1
      exact ⟨s', q2, Or.inr ⟨_, _, _, if_pos hc, q1, q3⟩⟩
    · rw [bI_f hc, if_pos rfl]
      exact ⟨σ, kfr_refl _ _ _ _ _, Or.inl ⟨if_neg hc, rfl⟩⟩
