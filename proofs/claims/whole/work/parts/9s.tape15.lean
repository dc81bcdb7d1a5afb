/-! THE TAPE, 14: the reference's slopes -/
theorem rv_give {X : tX} {σ : kS} {V : tF} (h : rSt X σ) (ok : x_ok X) {m : Nat} (hm : m < x_n X) {i : Nat} (hi : i ≤ m) {r : Nat} (hr : r < x_c X i) (hv : ∀ j, j < i → vR X V σ j) {N : Nat} (hN : 300 ≤ N) (gV : gF V) {y : Option Rat} (hy : fG y) (ho : x_o X i < 16) {S : tF} {s : kS} (g : GS X m σ y S s) : ∃ s', kf_PM_give N s (nI i) (nI r) = some ((), s') ∧ GS X m σ y (gvs X V i r y S (x_t X i)) s' := by
  have hn := ok.1
  have hi' : i < x_n X := by omega
  have tb := xt_b ok hi' ho
  have cb := (xc_b ok hi').2
  have st := gs_st h g
  obtain ⟨q1, q2, q3, q4, q5⟩ := st.2 i hi'
  obtain ⟨g1, g2, g3, g4⟩ := x_lt ok hi' ho
  have t3 : mj_tab (s.2.2.1 3) 50 (nI i) = some (nI (x_o X i)) := by rw [mj_tab_nI (by omega) (by omega), q1]; exact congrArg some (if_neg (by omega))
  have t4 : mj_tab (s.2.2.1 4) 50 (nI i) = some (nI (x_a X i)) := by rw [mj_tab_nI (by omega) (by omega), q2]; exact congrArg some (if_neg (by omega))
  have t5 : mj_tab (s.2.2.1 5) 50 (nI i) = some (nI (x_b X i)) := by rw [mj_tab_nI (by omega) (by omega), q3]; exact congrArg some (if_neg (by omega))
  have k0 : 0 < x_t X i := by omega
  have gA0 : fG (fA X V i r 0) := gV _ _
  obtain ⟨a1, a2⟩ := rA_rd ok hi' hr (fun j hj => gs_v (hv j hj) g) ho k0
  unfold kf_PM_give kb_PM_give_0
  rw [t4, Option.bind_some, t3, Option.bind_some]
  by_cases h4 : x_o X i < 4
  · obtain ⟨s', p1, p2⟩ := rv_two h ok hm hi hr hv hN gV hy h4 g
    refine ⟨s', ?_, p2⟩
    rw [if_neg (by rw [show (4 : Int32) = nI 4 from rfl, nI_leI (by omega) (by omega)]; omega), p1]
    rfl
  rw [if_pos (by rw [show (4 : Int32) = nI 4 from rfl, nI_leI (by omega) (by omega)]; omega)]
  by_cases h4' : x_o X i = 4
  · obtain ⟨s', p1, p2⟩ := rv_prod h ok hm hi hr hv hN gV hy h4' g
    refine ⟨s', ?_, p2⟩
    rw [if_pos (show nI (x_o X i) = 4 by rw [h4']; rfl), p1]
    rfl
  rw [if_neg (fun q : nI (x_o X i) = 4 => h4' ((nI_eq (b := 4) (by omega) (by omega)).mp q))]
  by_cases h8 : x_o X i < 8
  · rw [if_neg (by rw [show (8 : Int32) = nI 8 from rfl, nI_leI (by omega) (by omega)]; omega), t5, Option.bind_some]
    obtain ⟨_, _, q⟩ := ok.2 i hi'
    obtain ⟨_, _, q⟩ := q (by omega)
    unfold x_fit at q
    rw [if_neg (by omega), if_neg (by omega), if_pos h8] at q
    have s3 := g4.1
    have sd : kf_PM_sideOf N s (nI (x_a X i)) (nI (x_b X i)) = some (nI (x_t X i), s) := by
      rw [rn_side st ok N g2 (by omega), if_pos q.1]
      unfold x_t w_t
      rw [if_neg (by omega), if_neg (by omega), if_pos h8]
    rw [sd, kk_some]
    by_cases h7 : x_o X i = 7
    · rw [if_pos (show nI (x_o X i) = 7 by rw [h7]; rfl), rn_great st ok hi' hr (fun j hj => gs_v (hv j hj) g) hN gV (by omega) h8, kk_some]
      exact rv_al h ok hm hi hr hv hN gV hy (by omega) h8 g (fun _ => rfl)
    · rw [if_neg (fun q : nI (x_o X i) = 7 => h7 ((nI_eq (b := 7) (by omega) (by omega)).mp q))]
      exact rv_al h ok hm hi hr hv hN gV hy (by omega) h8 g (fun w => absurd w h7)
  rw [if_pos (by rw [show (8 : Int32) = nI 8 from rfl, nI_leI (by omega) (by omega)]; omega)]
  by_cases h15 : x_o X i = 15
  · have xt := (xu_15 h15 0 0).2
    have lp : ∀ d k fu s1, d + k = x_t X i → d < fu → GS X m σ y (gvs X V i r y S k) s1 → ∃ s', kb_PM_give_207 N fu s1 (nI (x_a X i)) (64 * nI (x_a X i)) (nI k) = some ((), s') ∧ GS X m σ y (gvs X V i r y S (x_t X i)) s' := by
      intro d
      induction d with
      | zero =>
        intro k fu s1 hd hf gs
        obtain ⟨f', rfl⟩ : ∃ f', fu = f' + 1 := ⟨fu - 1, by omega⟩
        have : k = x_t X i := by omega
        subst this
        refine ⟨s1, ?_, gs⟩
        rw [kb_PM_give_207, rn_cells (gs_st h gs) ok hN g2, kk_some, if_pos (by rw [← xt]; exact Int32.le_refl _)]
        rfl
      | succ d ih =>
        intro k fu s1 hd hf gs
        obtain ⟨f', rfl⟩ : ∃ f', fu = f' + 1 := ⟨fu - 1, by omega⟩
        have kt : k < x_t X i := by omega
        obtain ⟨s2, p1, p2⟩ := rgv_1 ok hm hi hr hN gV hy (by omega) kt gs (x := some 1) (by rw [h15]; rfl)
        have p2' : GS X m σ y (gvs X V i r y S (k + 1)) s2 := by
          show GS X m σ y (gv2 X V i r y k (gv1 X V i r y k (gvs X V i r y S k))) s2
          rw [gv2_no (by omega)]
          exact p2
        rw [(xu_15 h15 r k).1] at p1
        obtain ⟨s', p5, p6⟩ := ih (k + 1) f' s2 (by omega) (by omega) p2'
        refine ⟨s', ?_, p6⟩
        rw [kb_PM_give_207, rn_cells (gs_st h gs) ok hN g2, kk_some, if_neg (by rw [nI_leI (by omega) (by omega)]; omega), L_11 hN, kk_some, p1, kk_some, nI_1]
        exact p5
    rw [if_pos (show nI (x_o X i) = 15 by rw [h15]; rfl)]
    exact lp (x_t X i) 0 N s (by omega) (by omega) g
  rw [if_neg (fun q : nI (x_o X i) = 15 => h15 ((nI_eq (b := 15) (by omega) (by omega)).mp q))]
  have te : x_t X i = 1 := by
    unfold x_t w_t
    rw [if_neg (by omega), if_neg (by omega), if_neg (by omega), if_neg h15]
  rw [te]
  show ∃ s', _ ∧ GS X m σ y (gv2 X V i r y 0 (gv1 X V i r y 0 S)) s'
  rw [gv2_no (by omega)]
  unfold kb_PM_give_255 kb_PM_give_294 kb_PM_give_418 kb_PM_give_419 kb_PM_give_423 kb_PM_give_431
  obtain e | e | e | e | e | e | e : x_o X i = 8 ∨ x_o X i = 9 ∨ x_o X i = 10 ∨ x_o X i = 11 ∨ x_o X i = 12 ∨ x_o X i = 13 ∨ x_o X i = 14 := by omega
  · obtain ⟨s', p1, p2⟩ := rgv_1 ok hm hi hr hN gV hy (by omega) k0 g (x := some 1) (by rw [e]; rfl)
    refine ⟨s', ?_, p2⟩
    have st1 := gs_st h (gs_PQ g (some 1))
    have t5' : mj_tab ((kPQ s (some 1)).2.2.1 5) 50 (nI i) = some (nI (x_b X i)) := t5
    have ix : nI (x_b X i) * nI (x_c X i) + nI r = nI (x_u X i r 0) := by
      rw [nI_mul, nI_add, xu_8 ok hi' hr e]
    rw [if_pos (show nI (x_o X i) = 8 by rw [e]; rfl), L_11 hN, kk_some, if_pos (show nI (x_o X i) = 8 by rw [e]; rfl), t5', Option.bind_some, rn_cells st1 ok hN hi', kk_some, ix, p1, kk_some]
  · obtain ⟨s', p1, p2⟩ := rgv_1 ok hm hi hr hN gV hy (by omega) k0 g (x := some 1) (by rw [e]; rfl)
    refine ⟨s', ?_, p2⟩
    have st1 := gs_st h (gs_PQ g (some 1))
    rw [e, if_neg (by decide), if_pos (by decide), L_11 hN, kk_some, if_neg (by decide), rn_tu st1 ok hi' hr hN e 0, kk_some, p1, kk_some]
  · have xid := xu_id ok hi' hr (by omega) (by omega) 0
    obtain ⟨s', p1, p2⟩ := rgv_1 ok hm hi hr hN gV hy (by omega) k0 g (x := some (-1)) (by rw [e]; rfl)
    refine ⟨s', ?_, p2⟩
    rw [xid] at a1 a2 p1
    rw [e, if_neg (by decide), if_neg (by decide), rn_load a1 a2, kk_some, if_pos (by decide), L_m1 hN, kk_some, kPQ_kPQ, p1, kk_some]
  · have xid := xu_id ok hi' hr (by omega) (by omega) 0
    have ee : ow1 (x_o X i) (x_t X i) (fA X V i r) (fB X V i r) 0 = (if fA X V i r 0 = none then none else if 0 < pP (fA X V i r 0) then some 1 else some 0) := by rw [e]; rfl
    obtain ⟨s', p1, p2⟩ := rgv_1 ok hm hi hr hN gV hy (by omega) k0 g ee.symm
    refine ⟨s', ?_, p2⟩
    rw [xid] at a1 a2 p1
    rw [e, if_neg (by decide), if_neg (by decide), rn_load a1 a2, kk_some, if_neg (by decide), if_neg (by decide), if_neg (by decide), kPQ_p, kPQ_q]
    by_cases hz : fA X V i r 0 = none
    · have z : lg_cmp (zL (pQ (fA X V i r 0))) 0 = 0 := by
        rw [hz]
        exact (lg_eq0 _ _).mpr rfl
      rw [if_pos hz] at p1
      rw [if_pos z, hz, p1, kk_some]
    · have z : ¬ lg_cmp (zL (pQ (fA X V i r 0))) 0 = 0 := by
        rw [zL_0, zg_eq (rg_pQ gA0) rg_0]
        exact fun q => hz (pQ_0.mp q)
      rw [if_neg hz] at p1
      rw [if_neg z]
      by_cases hp : 0 < pP (fA X V i r 0)
      · rw [if_pos hp] at p1
        rw [if_neg (by rw [zL_0, zg_le (rg_pP gA0) rg_0]; omega), L_11 hN, kk_some, kPQ_kPQ, p1, kk_some]
      · rw [if_neg hp] at p1
        rw [if_pos (by rw [zL_0, zg_le (rg_pP gA0) rg_0]; omega), if_neg (by decide), L_01 hN, kk_some, kPQ_kPQ, p1, kk_some]
  · have xid := xu_id ok hi' hr (by omega) (by omega) 0
    have ee : ow1 (x_o X i) (x_t X i) (fA X V i r) (fB X V i r) 0 = (if fA X V i r 0 = none then none else if 0 < pP (fA X V i r 0) then some 1 else if pP (fA X V i r 0) < 0 then some (-1) else some 0) := by rw [e]; rfl
    obtain ⟨s', p1, p2⟩ := rgv_1 ok hm hi hr hN gV hy (by omega) k0 g ee.symm
    refine ⟨s', ?_, p2⟩
    rw [xid] at a1 a2 p1
    rw [e, if_neg (by decide), if_neg (by decide), rn_load a1 a2, kk_some, if_neg (by decide), if_neg (by decide), if_neg (by decide), kPQ_p, kPQ_q]
    by_cases hz : fA X V i r 0 = none
    · have z : lg_cmp (zL (pQ (fA X V i r 0))) 0 = 0 := by
        rw [hz]
        exact (lg_eq0 _ _).mpr rfl
      rw [if_pos hz] at p1
      rw [if_pos z, hz, p1, kk_some]
    · have z : ¬ lg_cmp (zL (pQ (fA X V i r 0))) 0 = 0 := by
        rw [zL_0, zg_eq (rg_pQ gA0) rg_0]
        exact fun q => hz (pQ_0.mp q)
      rw [if_neg hz] at p1
      rw [if_neg z]
      by_cases hp : 0 < pP (fA X V i r 0)
      · rw [if_pos hp] at p1
        rw [if_neg (by rw [zL_0, zg_le (rg_pP gA0) rg_0]; omega), L_11 hN, kk_some, kPQ_kPQ, p1, kk_some]
      · rw [if_neg hp] at p1
        rw [if_pos (by rw [zL_0, zg_le (rg_pP gA0) rg_0]; omega), if_pos (by decide)]
        by_cases hp2 : pP (fA X V i r 0) < 0
        · rw [if_pos hp2] at p1
          rw [if_neg (by rw [zL_0, zg_ge (rg_pP gA0) rg_0]; omega), L_m1 hN, kk_some, kPQ_kPQ, p1, kk_some]
        · rw [if_neg hp2] at p1
          rw [if_pos (by rw [zL_0, zg_ge (rg_pP gA0) rg_0]; omega), L_01 hN, kk_some, kPQ_kPQ, p1, kk_some]
  · have xid := xu_id ok hi' hr (by omega) (by omega) 0
    obtain ⟨s', p1, p2⟩ := rgv_1 ok hm hi hr hN gV hy (by omega) k0 g (x := fadd (fA X V i r 0) (fA X V i r 0)) (by rw [e]; rfl)
    refine ⟨s', ?_, p2⟩
    rw [xid] at a1 a2 p1
    rw [e, if_neg (by decide), if_neg (by decide), rn_load a1 a2, kk_some, if_neg (by decide), if_neg (by decide), if_pos (by decide), kPQ_p, kPQ_q, kp_plus (by omega) _ gA0 gA0, kk_some, kPQ_kPQ, p1, kk_some]
  · have xid := xu_id ok hi' hr (by omega) (by omega) 0
    obtain ⟨s', p1, p2⟩ := rgv_1 ok hm hi hr hN gV hy (by omega) k0 g (x := some 1) (by rw [e]; rfl)
    refine ⟨s', ?_, p2⟩
    rw [xid] at a1 a2 p1
    rw [e, if_neg (by decide), if_neg (by decide), rn_load a1 a2, kk_some, if_neg (by decide), if_pos (by decide), L_11 hN, kk_some, kPQ_kPQ, p1, kk_some]
