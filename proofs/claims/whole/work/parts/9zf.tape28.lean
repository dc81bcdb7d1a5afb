theorem r_fit15 {X : tX} (ok : x_ok X) {N : Nat} (hN : 300 ≤ N) {σ : kS} (h : rSt X σ) {o a : Nat} (h9 : 9 ≤ o) (h16 : o < 16) (ha : a < x_n X) (v : Int32) : ∃ s, fFt σ s ∧ ((x_mk X o a v = none ∧ kf_PM_fits N σ (nI o) (nI a) v = some (0, s)) ∨ ∃ b z P, x_mk X o a v = some (b, z, P) ∧ kf_PM_fits N σ (nI o) (nI a) v = some (1, s) ∧ mkd z P s) := by
  have hn := ok.1
  have sa := (ok.2 a ha).2.1.1
  have pa := (ok.2 a ha).2.1.2.1
  have t6 : mj_tab (σ.2.2.1 6) 50 (nI a) = some (nI (x_s X a)) := by rw [mj_tab_nI (by omega) (by omega), (h.2 a ha).2.2.2.1]
  have eqo : ∀ c : Nat, c < 100 → (nI o = nI c ↔ o = c) := fun c hc => nI_eq (by omega) (by omega)
  have e9 : nI o = 9 ↔ o = 9 := eqo 9 (by omega)
  have e14 : nI o = 14 ↔ o = 14 := eqo 14 (by omega)
  have e15 : nI o = 15 ↔ o = 15 := eqo 15 (by omega)
  have head : kf_PM_fits N σ (nI o) (nI a) v = if v = 0 then (if nI o = 9 then (if 2 ≤ nI (x_s X a) then kb_PM_fits_243 N σ (nI o) (nI a) else some (0, σ)) else kb_PM_fits_243 N σ (nI o) (nI a)) else some (0, σ) := by
    unfold kf_PM_fits kb_PM_fits_0 kb_PM_fits_241
    rw [if_pos (by rw [show (4 : Int32) = nI 4 from rfl, nI_leI (by omega) (by omega)]; omega), if_neg (by rw [show (4 : Int32) = nI 4 from rfl, nI_eq (by omega) (by omega)]; omega), if_pos (by rw [show (9 : Int32) = nI 9 from rfl, nI_leI (by omega) (by omega)]; omega), t6, Option.bind_some]
    rfl
  have mk : x_mk X o a v = if v = 0 then (if o = 9 then (if 2 ≤ x_s X a then some (0, x_s X a, m3 (x_P X a 0) (x_P X a 2) (x_P X a 1)) else none) else if o = 14 then some (0, 1, m3 1 1 (c3 (x_P X a))) else if o = 15 then some (0, 0, m3 1 1 1) else some (0, x_s X a, x_P X a)) else none := by
    unfold x_mk
    rw [if_neg (by omega), if_neg (by omega), if_neg (by omega), if_neg (by omega)]
  rw [head, mk]
  by_cases hv : v = 0
  case neg =>
    rw [if_neg hv, if_neg hv]
    exact ⟨σ, kfr_refl _ _ _ _ _, Or.inl ⟨rfl, rfl⟩⟩
  rw [if_pos hv, if_pos hv]
  -- the copy of z sides, then the end
  have cp : ∀ z, z ≤ 3 → ∃ s1 f', kb_PM_fits_270 N σ (nI o) (nI a) (nI z) = kb_PM_fits_276 N (f' + 1) s1 (nI o) (nI a) (nI z) ∧ fFt σ s1 ∧ s1.1 11 = nI z ∧ ∀ q, q < z → s1.2.2.1 12 q = σ.2.2.1 7 (3 * a + q) := by
    intro z hz
    obtain ⟨s1, f', p1, p2, p3, p4⟩ := r_copy (N := N) hz (o := o) (a := a) (by omega) z 0 N (kI σ 11 (nI z)) (by omega) (by omega) (by rw [kI_1, if_pos rfl]) (fun q hq => absurd hq (by omega))
    refine ⟨s1, f', ?_, kfr_trans (kfr_I (by decide)) p2, p3, p4⟩
    unfold kb_PM_fits_270
    rw [kk_letE]
    exact p1
  have en0 : ∀ s1 f' z, s1.1 11 = nI z → ¬ o = 14 → ¬ o = 9 → kb_PM_fits_276 N (f' + 1) s1 (nI o) (nI a) (nI z) = some (1, s1) := by
    intro s1 f' z h11 n14 n9
    rw [kb_PM_fits_276, h11, if_pos (Int32.le_refl _), if_neg (fun w => n14 (e14.mp w))]
    unfold kb_PM_fits_326 kb_PM_fits_384
    rw [if_neg (fun w => n9 (e9.mp w))]
    rfl
  by_cases h15 : o = 15
  · obtain ⟨s1, f', p1, p2, p3, p4⟩ := cp 0 (by omega)
    rw [if_neg (show ¬ nI o = 9 from fun w => by have := e9.mp w; omega), if_neg (show ¬ o = 9 by omega), if_neg (show ¬ o = 14 by omega), if_pos h15]
    refine ⟨s1, p2, Or.inr ⟨_, _, _, rfl, ?_, p3, fun k hk => absurd hk (by omega)⟩⟩
    unfold kb_PM_fits_243
    rw [if_pos (e15.mpr h15), show (0 : Int32) = nI 0 from rfl, p1, en0 s1 f' 0 p3 (by omega) (by omega)]
  by_cases h14 : o = 14
  · obtain ⟨s1, f', p1, p2, p3, p4⟩ := cp 1 (by omega)
    rw [if_neg (show ¬ nI o = 9 from fun w => by have := e9.mp w; omega), if_neg (show ¬ o = 9 by omega), if_pos h14]
    refine ⟨kA s1 12 0 (nI (x_c X a)), kfr_trans p2 (kfr_A (by decide)), Or.inr ⟨_, _, _, rfl, ?_, p3, fun k hk => ?_⟩⟩
    · unfold kb_PM_fits_243
      rw [if_neg (fun w => h15 (e15.mp w)), if_pos (e14.mpr h14), show (1 : Int32) = nI 1 from rfl, p1, kb_PM_fits_276, p3, if_pos (Int32.le_refl _), if_pos (e14.mpr h14), rn_cells (rSt_ft p2 h) ok hN ha, kk_some]
      show mj_gd (nI 0) 3 (kk_let (kA s1 12 0 (nI (x_c X a))) _) = _
      rw [mj_gd_nI (by omega) (by omega), kk_letE]
      unfold kb_PM_fits_326 kb_PM_fits_384
      rw [if_neg (fun w => by have := e9.mp w; omega)]
      rfl
    · have : k = 0 := by omega
      subst this
      rw [kA_3, if_pos ⟨rfl, rfl⟩]
      rfl
  obtain ⟨s1, f', p1, p2, p3, p4⟩ := cp (x_s X a) sa
  have p4' : ∀ q, q < x_s X a → s1.2.2.1 12 q = nI (x_P X a (3 - x_s X a + q)) := fun q hq => (p4 q hq).trans ((h.2 a ha).2.2.2.2 q hq)
  have e243 : kb_PM_fits_243 N σ (nI o) (nI a) = kb_PM_fits_276 N (f' + 1) s1 (nI o) (nI a) (nI (x_s X a)) := by
    unfold kb_PM_fits_243
    rw [if_neg (fun w => h15 (e15.mp w)), if_neg (fun w => h14 (e14.mp w)), t6, Option.bind_some, p1]
  by_cases h9' : o = 9
  · rw [if_pos (e9.mpr h9'), if_pos h9']
    by_cases c2 : 2 ≤ x_s X a
    · rw [if_pos (show (2 : Int32) ≤ nI (x_s X a) by rw [show (2 : Int32) = nI 2 from rfl, nI_leI (by omega) (by omega)]; exact c2), if_pos c2]
      have st1 := rSt_ft p2 h
      have b1 := rn_back st1 ok ha (show 1 ≤ 1 by omega) (show 1 ≤ x_s X a by omega)
      have b2 := rn_back st1 ok ha (show 1 ≤ 2 by omega) c2
      obtain ⟨s2, hs2⟩ : ∃ s2, s2 = kA s1 12 (x_s X a - 2) (nI (x_P X a 2)) := ⟨_, rfl⟩
      have h11 : s2.1 11 = nI (x_s X a) := by rw [hs2]; exact p3
      have b2' : mj_tab (s2.2.2.1 7) 150 (3 * nI a + nI (x_s X a) - nI 2) = some (nI (x_P X a 1)) := by
        rw [hs2, kA_ne _ _ _ _ (show 7 ≠ 12 by decide)]
        exact b2
      refine ⟨kA s2 12 (x_s X a - 1) (nI (x_P X a 1)), kfr_trans p2 (by rw [hs2]; exact kfr_trans (kfr_A (by decide)) (kfr_A (by decide))), Or.inr ⟨_, _, _, rfl, ?_, ?_, fun k hk => ?_⟩⟩
      · rw [e243, kb_PM_fits_276, p3, if_pos (Int32.le_refl _), if_neg (fun w => h14 (e14.mp w))]
        unfold kb_PM_fits_326 kb_PM_fits_384
        rw [if_pos (e9.mpr h9'), p3, show (1 : Int32) = nI 1 from rfl, b1, Option.bind_some, show (2 : Int32) = nI 2 from rfl, nI_sub c2, mj_gd_nI (by omega) (by omega), kk_letE, nI_clamp (by omega), ← hs2, h11, b2', Option.bind_some, nI_sub (show 1 ≤ x_s X a by omega), mj_gd_nI (by omega) (by omega), kk_letE, nI_clamp (by omega)]
        rfl
      · rw [kA_1]
        exact h11
      · rw [kA_3, hs2, kA_3]
        have zc : x_s X a = 2 ∨ x_s X a = 3 := by omega
        by_cases k1 : k = x_s X a - 1
        · rw [if_pos ⟨rfl, k1⟩, k1, show 3 - x_s X a + (x_s X a - 1) = 2 by omega]
          rfl
        · rw [if_neg (fun w => k1 w.2)]
          by_cases k2 : k = x_s X a - 2
          · rw [if_pos ⟨rfl, k2⟩, k2, show 3 - x_s X a + (x_s X a - 2) = 1 by omega]
            rfl
          · have k0 : k = 0 ∧ x_s X a = 3 := by omega
            rw [if_neg (fun w => k2 w.2), p4' k hk, k0.1, k0.2]
            rfl
    · rw [if_neg (show ¬ (2 : Int32) ≤ nI (x_s X a) by rw [show (2 : Int32) = nI 2 from rfl, nI_leI (by omega) (by omega)]; exact c2), if_neg c2]
      exact ⟨σ, kfr_refl _ _ _ _ _, Or.inl ⟨rfl, rfl⟩⟩
  · rw [if_neg (fun w => h9' (e9.mp w)), if_neg h9', if_neg h14, if_neg h15]
    exact ⟨s1, p2, Or.inr ⟨_, _, _, rfl, by rw [e243, en0 s1 f' (x_s X a) p3 h14 h9'], p3, p4'⟩⟩
theorem r_fits {X : tX} (ok : x_ok X) {N : Nat} (hN : 300 ≤ N) {σ : kS} (h : rSt X σ) {o a : Nat} (h16 : o < 16) (ha : a < x_n X) (v : Int32) (hb : o < 5 → ∃ j, j < x_n X ∧ v = nI j) : ∃ s, fFt σ s ∧ ((x_mk X o a v = none ∧ kf_PM_fits N σ (nI o) (nI a) v = some (0, s)) ∨ ∃ b z P, x_mk X o a v = some (b, z, P) ∧ kf_PM_fits N σ (nI o) (nI a) v = some (1, s) ∧ mkd z P s) := by
  by_cases h4 : o < 4
  · obtain ⟨j, hj, rfl⟩ := hb (by omega)
    exact r_fit2 ok hN h h4 ha hj
  · by_cases h4' : o = 4
    · obtain ⟨j, hj, rfl⟩ := hb (by omega)
      subst h4'
      exact r_fit4 ok h ha hj
    · by_cases h9 : o < 9
      · exact r_fit8 ok hN h (by omega) h9 ha v
      · exact r_fit15 ok hN h (by omega) h16 ha v
theorem pre_mk {z : Nat} {P : Nat → Nat} (hz : z ≤ 3) (hp : ∀ k, k + z < 3 → P k = 1) : pre (fun k => P (3 - z + k)) z = c3 P := by
  rw [pre_pd hz]
  unfold c3
  have e : ∀ k, k < 3 → pd3 z (fun k => P (3 - z + k)) k = P k := fun k hk => by
    unfold pd3
    by_cases w : k + z < 3
    · rw [if_pos w, hp k w]
    · rw [if_neg w]
      show P (3 - z + (k + z - 3)) = P k
      rw [show 3 - z + (k + z - 3) = k by omega]
  rw [e 0 (by omega), e 1 (by omega), e 2 (by omega)]
theorem r_prod {N : Nat} {z : Nat} {P : Nat → Nat} (hz : z ≤ 3) {s : kS} (h : mkd z P s) {v1 v2 v3 : Int32} : ∀ d k fu, d + k = z → d < fu → ∃ f', kb_PM_act_51 N fu s v1 v2 v3 (nI (pre (fun k => P (3 - z + k)) k)) (nI k) = kb_PM_act_51 N (f' + 1) s v1 v2 v3 (nI (pre (fun k => P (3 - z + k)) z)) (nI z) := by
  intro d
  induction d with
  | zero =>
    intro k fu hd hf
    obtain ⟨f', rfl⟩ : ∃ f', fu = f' + 1 := ⟨fu - 1, by omega⟩
    have : k = z := by omega
    subst this
    exact ⟨f', rfl⟩
  | succ d ih =>
    intro k fu hd hf
    obtain ⟨f', rfl⟩ : ∃ f', fu = f' + 1 := ⟨fu - 1, by omega⟩
    obtain ⟨f2, q⟩ := ih (k + 1) f' (by omega) (by omega)
    refine ⟨f2, ?_⟩
    rw [← q, kb_PM_act_51, h.1, if_neg (by rw [nI_leI (by omega) (by omega)]; omega), mj_tab_nI (by omega) (by omega), Option.bind_some, h.2 k (by omega), nI_mul, nI_1]
    rfl
theorem r_wside {N : Nat} {n z : Nat} {P : Nat → Nat} (hn : n < 50) (hz : z ≤ 3) : ∀ d k fu s, d + k = z → d < fu → s.1 2 = nI n → mkd z P s → (∀ q, q < k → s.2.2.1 7 (3 * n + q) = nI (P (3 - z + q))) → ∃ s', kb_PM_act_143 N fu s (nI k) = some (nI n, kI s' 2 (nI (n + 1))) ∧ kfr [] [] [7] [] s s' ∧ (∀ q, q < 3 * n → s'.2.2.1 7 q = s.2.2.1 7 q) ∧ ∀ q, q < z → s'.2.2.1 7 (3 * n + q) = nI (P (3 - z + q)) := by
  intro d
  induction d with
  | zero =>
    intro k fu s hd hf h2 hm hq
    obtain ⟨f', rfl⟩ : ∃ f', fu = f' + 1 := ⟨fu - 1, by omega⟩
    have : k = z := by omega
    subst this
    refine ⟨s, ?_, kfr_refl _ _ _ _ _, fun _ _ => rfl, hq⟩
    rw [kb_PM_act_143, hm.1, if_pos (Int32.le_refl _), kk_letE, h2, nI_1]
  | succ d ih =>
    intro k fu s hd hf h2 hm hq
    obtain ⟨f', rfl⟩ : ∃ f', fu = f' + 1 := ⟨fu - 1, by omega⟩
    obtain ⟨s', q1, q2, q3, q4⟩ := ih (k + 1) f' (kA s 7 (3 * n + k) (nI (P (3 - z + k)))) (by omega) (by omega) h2 ⟨hm.1, fun q hq => by rw [kA_ne _ _ _ _ (show 12 ≠ 7 by decide)]; exact hm.2 q hq⟩ (fun q hq' => by
      rw [kA_3]
      by_cases e : q = k
      · rw [if_pos ⟨rfl, by omega⟩, e]
      · rw [if_neg (fun w => by omega)]
        exact hq q (by omega))
    refine ⟨s', ?_, kfr_trans (kfr_A (by decide)) q2, fun q hq' => ?_, q4⟩
    · rw [kb_PM_act_143, hm.1, if_neg (by rw [nI_leI (by omega) (by omega)]; omega), mj_tab_nI (by omega) (by omega), Option.bind_some, hm.2 k (by omega), h2, n3, mj_gd_nI (by omega) (by omega), kk_letE, nI_clamp (by omega), nI_1]
      exact q1
    · rw [q3 q hq', kA_3, if_neg (fun w => by omega)]
/-- act of the reference: refused, full, or made -/
theorem r_act {N : Nat} (hN : 300 ≤ N) {X : tX} {V : tF} {pm : Nat → Bool} {rt : Option Rat} {σ : kS} (ok : x_ok X) (xv : xV X V) (h : rTp X V pm rt σ) (vo va vb : Int32) :
    (¬ ((0 ≤ vo.toInt ∧ vo.toInt ≤ 15) ∧ (0 ≤ va.toInt ∧ va.toInt ≤ (x_n X : Int) - 1)) → kf_PM_act N σ vo va vb = some (-1, σ)) ∧
    ∀ o a, o < 16 → vo = nI o → a < x_n X → va = nI a →
      ((o < 5 ∧ ¬ (0 ≤ vb.toInt ∧ vb.toInt ≤ (x_n X : Int) - 1)) → kf_PM_act N σ vo va vb = some (-1, σ)) ∧
      ((o < 5 → ∃ j, j < x_n X ∧ vb = nI j) →
        (x_mk X o a vb = none → ∃ s, kf_PM_act N σ vo va vb = some (-1, s) ∧ fFt σ s) ∧
        ∀ b z P, x_mk X o a vb = some (b, z, P) →
          (x_n X = 50 ∨ 64 < c3 P → ∃ s, kf_PM_act N σ vo va vb = some (-3, s) ∧ fFt σ s) ∧
          (x_n X < 50 → c3 P ≤ 64 → ∃ s, kf_PM_act N σ vo va vb = some (nI (x_n X), s) ∧ rTp (xE X o a b z P) (VE X V o a b z P) pm rt s ∧ fTp σ s)) := by
  have hn := ok.1
  have i15 : kf_PM_isIn N vo.toInt64 0 15 = some (bI (0 ≤ vo.toInt ∧ vo.toInt ≤ 15)) := by
    rw [show (0 : Int64) = zL 0 from rfl, show (15 : Int64) = zL 15 from rfl, pm_isIn N vo rg_0 ⟨by decide, by decide⟩]
  unfold kf_PM_act kb_PM_act_0 kb_PM_act_43
  rw [i15, Option.bind_some]
  refine ⟨fun hb => ?_, fun o a h16 e1 ha e2 => ?_⟩
  · by_cases c1 : 0 ≤ vo.toInt ∧ vo.toInt ≤ 15
    · rw [bI_t c1, if_neg (by decide), rn_out h.1 ok N (fun w => hb ⟨c1, w⟩), kk_some, if_pos rfl]
    · rw [bI_f c1, if_pos rfl]
  subst e1
  subst e2
  rw [bI_t (by rw [nI_toInt (by omega)]; omega), if_neg (show ¬ (1 : Int32) = 0 by decide), rn_in h.1 ok N ha, kk_some, if_neg (show ¬ (1 : Int32) = 0 by decide)]
  refine ⟨fun hb => ?_, fun hb => ?_⟩
  · rw [if_neg (by rw [show (5 : Int32) = nI 5 from rfl, nI_leI (by omega) (by omega)]; omega), rn_out h.1 ok N hb.2, kk_some, if_pos rfl]
  have hd : (if (5 : Int32) ≤ nI o then kb_PM_act_33 N σ (nI o) (nI a) vb else kk_call (kf_PM_isNode N σ vb) fun r27 s27 => if r27 = 0 then some (-1, s27) else kb_PM_act_33 N s27 (nI o) (nI a) vb) = kb_PM_act_33 N σ (nI o) (nI a) vb := by
    by_cases h5 : o < 5
    · obtain ⟨j, hj, rfl⟩ := hb h5
      rw [if_neg (by rw [show (5 : Int32) = nI 5 from rfl, nI_leI (by omega) (by omega)]; omega), rn_in h.1 ok N hj, kk_some, if_neg (by decide)]
    · rw [if_pos (by rw [show (5 : Int32) = nI 5 from rfl, nI_leI (by omega) (by omega)]; omega)]
  rw [hd]
  unfold kb_PM_act_33 kb_PM_act_43
  obtain ⟨s1, f1, q⟩ := r_fits ok hN h.1 h16 ha vb hb
  rcases q with ⟨k1, k2⟩ | ⟨b, z, P, k1, k2, k3⟩
  · rw [k2, kk_some, if_pos rfl]
    refine ⟨fun _ => ⟨s1, rfl, f1⟩, fun b z P w => ?_⟩
    rw [k1] at w
    cases w
  · rw [k2, kk_some, if_neg (show ¬ (1 : Int32) = 0 by decide)]
    refine ⟨fun w => absurd (k1.symm.trans w) (fun q => nomatch q), fun b' z' P' w => ?_⟩
    rw [k1] at w
    cases w
    obtain ⟨m1, m2, m3', m4, z3, m6, m7⟩ := x_mk_ok ok h16 ha hb k1
    obtain ⟨f', pr⟩ := r_prod (N := N) z3 k3 (v1 := nI o) (v2 := nI a) (v3 := vb) z 0 N (by omega) (by omega)
    rw [pre_mk z3 m7] at pr
    have pr' : kb_PM_act_51 N N s1 (nI o) (nI a) vb 1 0 = kb_PM_act_51 N (f' + 1) s1 (nI o) (nI a) vb (nI (c3 P)) (nI z) := pr
    have h2 : s1.1 2 = nI (x_n X) := (f1.1 2 (by decide)).trans h.1.1
    have cB : c3 P ≤ 64 * 64 * 64 := Nat.mul_le_mul (Nat.mul_le_mul (m6 0 (by omega)).2 (m6 1 (by omega)).2) (m6 2 (by omega)).2
    rw [pr', kb_PM_act_51, k3.1, if_pos (Int32.le_refl _), h2]
    unfold kb_PM_act_94
    refine ⟨fun hb' => ?_, fun hn50 hc64 => ?_⟩
    · refine ⟨s1, ?_, f1⟩
      by_cases e : x_n X = 50
      · rw [if_pos (show nI (x_n X) = 50 by rw [e]; rfl)]
      · rw [if_neg (show ¬ nI (x_n X) = 50 by rw [show (50 : Int32) = nI 50 from rfl, nI_eq (by omega) (by omega)]; exact e), if_neg (by rw [show (64 : Int32) = nI 64 from rfl, nI_leI (by omega) (by omega)]; omega)]
    · rw [if_neg (show ¬ nI (x_n X) = 50 by rw [show (50 : Int32) = nI 50 from rfl, nI_eq (by omega) (by omega)]; omega), if_pos (by rw [show (64 : Int32) = nI 64 from rfl, nI_leI (by omega) (by omega)]; omega)]
      simp only [kk_letE, kA_1, h2, k3.1]
      rw [mj_gd_nI hn50 (by omega), mj_gd_nI hn50 (by omega), mj_gd_nI hn50 (by omega), mj_gd_nI hn50 (by omega), nI_clamp (by omega)]
      obtain ⟨s0, hs0⟩ : ∃ s0, s0 = kA (kA (kA (kA s1 3 (x_n X) (nI o)) 4 (x_n X) (nI a)) 5 (x_n X) vb) 6 (x_n X) (nI z) := ⟨_, rfl⟩
      have f0 : kfr [] [] [3, 4, 5, 6] [] s1 s0 := by
        rw [hs0]
        exact kfr_trans (kfr_trans (kfr_trans (kfr_A (by decide)) (kfr_A (by decide))) (kfr_A (by decide))) (kfr_A (by decide))
      have r3 : ∀ i, s0.2.2.1 3 i = (if i = x_n X then nI o else s1.2.2.1 3 i) ∧ s0.2.2.1 4 i = (if i = x_n X then nI a else s1.2.2.1 4 i) ∧ s0.2.2.1 5 i = (if i = x_n X then vb else s1.2.2.1 5 i) ∧ s0.2.2.1 6 i = (if i = x_n X then nI z else s1.2.2.1 6 i) := fun i => by
        rw [hs0]
        simp only [kA_3]
        refine ⟨?_, ?_, ?_, ?_⟩ <;> simp
      have h20 : s0.1 2 = nI (x_n X) := by rw [hs0]; exact h2
      have km : mkd z P s0 := ⟨(f0.1 11 (by decide)).trans k3.1, fun k hk => by rw [f0.2.2.1 12 (by decide)]; exact k3.2 k hk⟩
      obtain ⟨s2, b1, b2, b3, b4⟩ := r_wside (N := N) hn50 z3 z 0 N s0 (by omega) (by omega) h20 km (fun q hq => absurd hq (by omega))
      refine ⟨kI s2 2 (nI (x_n X + 1)), ?_, ?_, ?_⟩
      · rw [← hs0, show (0 : Int32) = nI 0 from rfl, b1]
      · have A : ∀ f, f ≠ 7 → s2.2.2.1 f = s0.2.2.1 f := fun f hf => b2.2.2.1 f (by simp [hf])
        refine rTp_new ok xv h z3 (by rw [kI_1, if_pos rfl]) (fun i hi => ?_) (fun q hq => ?_) ?_ (fun k hk => ?_) (fun q hq => ?_) (fun w => by omega) (fun j => ?_) ?_ ?_
        · rw [kI_2, A 3 (by decide), A 4 (by decide), A 5 (by decide), A 6 (by decide), (r3 i).1, (r3 i).2.1, (r3 i).2.2.1, (r3 i).2.2.2, if_neg (by omega), if_neg (by omega), if_neg (by omega), if_neg (by omega), f1.2.2.1 3 (by decide), f1.2.2.1 4 (by decide), f1.2.2.1 5 (by decide), f1.2.2.1 6 (by decide)]
          exact ⟨rfl, rfl, rfl, rfl⟩
        · rw [kI_2, b3 q hq, f0.2.2.1 7 (by decide), f1.2.2.1 7 (by decide)]
        · rw [kI_2, A 3 (by decide), A 4 (by decide), A 5 (by decide), A 6 (by decide), (r3 _).1, (r3 _).2.1, (r3 _).2.2.1, (r3 _).2.2.2, if_pos rfl, if_pos rfl, if_pos rfl, if_pos rfl, m1]
          exact ⟨(if_neg (by omega)).symm, (if_neg (by omega)).symm, (if_neg (by omega)).symm, rfl⟩
        · rw [kI_2, b4 k hk]
        · rw [kI_2, b2.2.2.2 9 (by decide), b2.2.2.2 10 (by decide), f0.2.2.2 9 (by decide), f0.2.2.2 10 (by decide), f1.2.2.2 9 (by decide), f1.2.2.2 10 (by decide)]
          exact ⟨rfl, rfl⟩
        · rw [kI_2, A 8 (by decide), f0.2.2.1 8 (by decide), f1.2.2.1 8 (by decide)]
        · rw [kI_2, b2.2.1 18 (by decide), f0.2.1 18 (by decide), f1.2.1 18 (by decide)]
        · rw [kI_2, b2.2.1 19 (by decide), f0.2.1 19 (by decide), f1.2.1 19 (by decide)]
      · exact kfr_trans (kfr_trans (kfr_mono f1 (by decide) (by decide) (by decide) (by decide)) (kfr_trans (kfr_mono f0 (by decide) (by decide) (by decide) (by decide)) (kfr_mono b2 (by decide) (by decide) (by decide) (by decide)))) (kfr_I (by decide))
