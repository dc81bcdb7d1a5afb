/-! THE TAPE, 13: what the reference gives on from one cell, all acts -/
theorem L_11 {N : Nat} (hN : 300 ≤ N) (s : kS) : kf_PM_least N s 1 1 = some ((), kPQ s (some 1)) := by
  have := kp_least (N := N) (by omega) s rg_1 rg_1
  rw [fo_11] at this
  exact this
theorem L_01 {N : Nat} (hN : 300 ≤ N) (s : kS) : kf_PM_least N s 0 1 = some ((), kPQ s (some 0)) := by
  have := kp_least (N := N) (by omega) s rg_0 rg_1
  rw [fo_01] at this
  exact this
theorem L_m1 {N : Nat} (hN : 300 ≤ N) (s : kS) : kf_PM_least N s (-1) 1 = some ((), kPQ s (some (-1))) := by
  have := kp_least (N := N) (by omega) s rg_m1 rg_1
  rw [fo_m1] at this
  exact this
theorem L_00 {N : Nat} (hN : 300 ≤ N) (s : kS) : kf_PM_least N s 0 0 = some ((), kPQ s none) := kp_least (N := N) (by omega) s rg_0 rg_0
theorem rv_two {X : tX} {σ : kS} {V : tF} (h : rSt X σ) (ok : x_ok X) {m : Nat} (hm : m < x_n X) {i : Nat} (hi : i ≤ m) {r : Nat} (hr : r < x_c X i) (hv : ∀ j, j < i → vR X V σ j) {N : Nat} (hN : 300 ≤ N) (gV : gF V) {y : Option Rat} (hy : fG y) (ho : x_o X i < 4) {S : tF} {s : kS} (g : GS X m σ y S s) : ∃ s', kf_PM_giveTwo N s (nI i) (nI r) = some ((), s') ∧ GS X m σ y (gvs X V i r y S (x_t X i)) s' := by
  have hn := ok.1
  have hi' : i < x_n X := by omega
  have st := gs_st h g
  obtain ⟨q1, q2, q3, q4, q5⟩ := st.2 i hi'
  have t3 : mj_tab (s.2.2.1 3) 50 (nI i) = some (nI (x_o X i)) := by rw [mj_tab_nI (by omega) (by omega), q1]; exact congrArg some (if_neg (by omega))
  have t4 : mj_tab (s.2.2.1 4) 50 (nI i) = some (nI (x_a X i)) := by rw [mj_tab_nI (by omega) (by omega), q2]; exact congrArg some (if_neg (by omega))
  have t5 : mj_tab (s.2.2.1 5) 50 (nI i) = some (nI (x_b X i)) := by rw [mj_tab_nI (by omega) (by omega), q3]; exact congrArg some (if_neg (by omega))
  have te : x_t X i = 1 := by
    unfold x_t w_t
    rw [if_pos ho]
  have k0 : 0 < x_t X i := by omega
  have rA : ∀ {S' : tF} {s' : kS}, GS X m σ y S' s' → mj_tabL (s'.2.2.2 9) 3200 (64 * nI (x_a X i) + nI (x_u X i r 0)) = some (zL (pP (fA X V i r 0))) ∧ mj_tabL (s'.2.2.2 10) 3200 (64 * nI (x_a X i) + nI (x_u X i r 0)) = some (zL (pQ (fA X V i r 0))) := fun g' => rA_rd ok hi' hr (fun j hj => gs_v (hv j hj) g') (by omega) k0
  have rB : ∀ {S' : tF} {s' : kS}, GS X m σ y S' s' → mj_tabL (s'.2.2.2 9) 3200 (64 * nI (x_b X i) + nI (x_v X i r 0)) = some (zL (pP (fB X V i r 0))) ∧ mj_tabL (s'.2.2.2 10) 3200 (64 * nI (x_b X i) + nI (x_v X i r 0)) = some (zL (pQ (fB X V i r 0))) := fun g' => rB_rd ok hi' hr (fun j hj => gs_v (hv j hj) g') (by omega) k0
  have gA : fG (fA X V i r 0) := gV _ _
  have gB : fG (fB X V i r 0) := gV _ _
  unfold kf_PM_giveTwo kb_PM_giveTwo_0
  rw [t4, Option.bind_some, Option.bind_some, rn_spA st ok hi' hr hN ho 0, kk_some, t5, Option.bind_some, Option.bind_some, rn_spB st ok hi' hr hN ho 0, kk_some, t3, Option.bind_some, te]
  show ∃ s', _ ∧ GS X m σ y (gv2 X V i r y 0 (gv1 X V i r y 0 S)) s'
  obtain e | e | e | e : x_o X i = 0 ∨ x_o X i = 1 ∨ x_o X i = 2 ∨ x_o X i = 3 := by omega
  · obtain ⟨s1, p1, p2⟩ := rgv_1 ok hm hi hr hN gV hy (by omega) k0 g (x := some 1) (by rw [e]; rfl)
    obtain ⟨s2, p3, p4⟩ := rgv_2 ok hm hi hr hN gV hy (by omega) k0 p2 (x := some 1) (by rw [e]; rfl)
    refine ⟨s2, ?_, p4⟩
    rw [e, if_neg (by decide), L_11 hN, kk_some]
    unfold kb_PM_giveTwo_105 kb_PM_giveTwo_129 kb_PM_giveTwo_207
    rw [p1, kk_some, if_neg (by decide), if_pos (by decide), L_11 hN, kk_some, p3, kk_some]
  · obtain ⟨s1, p1, p2⟩ := rgv_1 ok hm hi hr hN gV hy (by omega) k0 g (x := some 1) (by rw [e]; rfl)
    obtain ⟨s2, p3, p4⟩ := rgv_2 ok hm hi hr hN gV hy (by omega) k0 p2 (x := some (-1)) (by rw [e]; rfl)
    refine ⟨s2, ?_, p4⟩
    rw [e, if_neg (by decide), L_11 hN, kk_some]
    unfold kb_PM_giveTwo_105 kb_PM_giveTwo_129 kb_PM_giveTwo_207
    rw [p1, kk_some, if_neg (by decide), if_neg (by decide), L_m1 hN, kk_some, p3, kk_some]
  · obtain ⟨s1, p1, p2⟩ := rgv_1 ok hm hi hr hN gV hy (by omega) k0 g (x := fB X V i r 0) (by rw [e]; rfl)
    obtain ⟨s2, p3, p4⟩ := rgv_2 ok hm hi hr hN gV hy (by omega) k0 p2 (x := fA X V i r 0) (by rw [e]; rfl)
    refine ⟨s2, ?_, p4⟩
    obtain ⟨b1, b2⟩ := rB g
    obtain ⟨a1, a2⟩ := rA p2
    rw [e, if_pos (by decide), if_pos (by decide), rn_load b1 b2, kk_some]
    unfold kb_PM_giveTwo_105 kb_PM_giveTwo_207
    rw [p1, kk_some, if_pos (by decide), if_pos (by decide), rn_load a1 a2, kk_some, p3, kk_some]
  · obtain ⟨s1, p1, p2⟩ := rgv_1 ok hm hi hr hN gV hy (by omega) k0 g (x := fdiv (some 1) (fB X V i r 0)) (by rw [e]; exact finv_d gB)
    obtain ⟨s2, p3, p4⟩ := rgv_2 ok hm hi hr hN gV hy (by omega) k0 p2 (x := fdiv (fneg (fdiv (fA X V i r 0) (fB X V i r 0))) (fB X V i r 0)) (by
      rw [e, fdiv_neg, fdiv_inv (fdiv _ _), fdiv_inv (fA X V i r 0)]
      rfl)
    refine ⟨s2, ?_, p4⟩
    obtain ⟨b1, b2⟩ := rB g
    obtain ⟨c1, c2⟩ := rB p2
    obtain ⟨a1, a2⟩ := rA p2
    have ov1 : kf_PM_over N s 1 1 (zL (pP (fB X V i r 0))) (zL (pQ (fB X V i r 0))) = some ((), kPQ s (fdiv (some 1) (fB X V i r 0))) := kp_over (by omega) s fG_O gB
    have c1' : mj_tabL ((kPQ s1 (fdiv (fA X V i r 0) (fB X V i r 0))).2.2.2 9) 3200 (64 * nI (x_b X i) + nI (x_v X i r 0)) = some (zL (pP (fB X V i r 0))) := c1
    have c2' : mj_tabL ((kPQ s1 (fdiv (fA X V i r 0) (fB X V i r 0))).2.2.2 10) 3200 (64 * nI (x_b X i) + nI (x_v X i r 0)) = some (zL (pQ (fB X V i r 0))) := c2
    have ov2 := kp_over (N := N) (by omega) (kPQ s1 (fdiv (fA X V i r 0) (fB X V i r 0))) (fG_neg (fG_div (fA X V i r 0) (fB X V i r 0))) gB
    rw [pP_neg, pQ_neg] at ov2
    rw [e, if_pos (by decide), if_neg (by decide), b1, Option.bind_some, b2, Option.bind_some, ov1, kk_some]
    unfold kb_PM_giveTwo_105 kb_PM_giveTwo_207
    rw [p1, kk_some, if_pos (by decide), if_neg (by decide), a1, Option.bind_some, a2, Option.bind_some, c1, Option.bind_some, c2, Option.bind_some, kp_over (by omega) s1 gA gB, kk_some, c1', Option.bind_some, c2', Option.bind_some, kPQ_p, kPQ_q, zL_neg, ov2, kk_some, kPQ_kPQ, p3, kk_some]
theorem rv_prod {X : tX} {σ : kS} {V : tF} (h : rSt X σ) (ok : x_ok X) {m : Nat} (hm : m < x_n X) {i : Nat} (hi : i ≤ m) {r : Nat} (hr : r < x_c X i) (hv : ∀ j, j < i → vR X V σ j) {N : Nat} (hN : 300 ≤ N) (gV : gF V) {y : Option Rat} (hy : fG y) (ho : x_o X i = 4) {S : tF} {s : kS} (g : GS X m σ y S s) : ∃ s', kf_PM_giveProduct N s (nI i) (nI r) = some ((), s') ∧ GS X m σ y (gvs X V i r y S (x_t X i)) s' := by
  have hn := ok.1
  have hi' : i < x_n X := by omega
  have tb := xt_b ok hi' (by omega)
  have cb := (xc_b ok hi').2
  have st := gs_st h g
  obtain ⟨q1, q2, q3, q4, q5⟩ := st.2 i hi'
  obtain ⟨g1, g2, g3, g4⟩ := x_lt ok hi' (by omega)
  obtain ⟨v1, v2, v3⟩ := x_lt2 ok hi' (by omega)
  have t4 : mj_tab (s.2.2.1 4) 50 (nI i) = some (nI (x_a X i)) := by rw [mj_tab_nI (by omega) (by omega), q2]; exact congrArg some (if_neg (by omega))
  have t5 : mj_tab (s.2.2.1 5) 50 (nI i) = some (nI (x_b X i)) := by rw [mj_tab_nI (by omega) (by omega), q3]; exact congrArg some (if_neg (by omega))
  obtain ⟨_, _, te, sa, sb⟩ := xu_4 (k := 0) ok hi' hr ho (by omega)
  have B2 := v3.2.1 2 (by omega)
  have A2 := g4.2.1 2 (by omega)
  have lp : ∀ d k fu s1, d + k = x_t X i → d < fu → GS X m σ y (gvs X V i r y S k) s1 → ∃ s', kb_PM_giveProduct_35 N fu s1 (nI r) (nI (x_a X i)) (nI (x_b X i)) (nI (x_P X (x_b X i) 2)) (nI (x_P X (x_a X i) 2)) (nI k) = some ((), s') ∧ GS X m σ y (gvs X V i r y S (x_t X i)) s' := by
    intro d
    induction d with
    | zero =>
      intro k fu s1 hd hf gs
      obtain ⟨f', rfl⟩ : ∃ f', fu = f' + 1 := ⟨fu - 1, by omega⟩
      have : k = x_t X i := by omega
      subst this
      refine ⟨s1, ?_, gs⟩
      rw [kb_PM_giveProduct_35, if_pos (by rw [te]; exact Int32.le_refl _)]
    | succ d ih =>
      intro k fu s1 hd hf gs
      obtain ⟨f', rfl⟩ : ∃ f', fu = f' + 1 := ⟨fu - 1, by omega⟩
      have kt : k < x_t X i := by omega
      obtain ⟨xu, xv, _, _, _⟩ := xu_4 (k := k) ok hi' hr ho kt
      obtain ⟨D1, D2⟩ := nI_div (a := r) (b := x_P X (x_b X i) 2) B2.1 (by omega) (by omega)
      have z : ¬ nI (x_P X (x_b X i) 2) = 0 := by rw [show (0 : Int32) = nI 0 from rfl, nI_eq (by omega) (by omega)]; omega
      have i1 : 64 * nI (x_a X i) + nI r / nI (x_P X (x_b X i) 2) * nI (x_P X (x_a X i) 2) + nI k = 64 * nI (x_a X i) + nI (x_u X i r k) := by
        rw [D1, nI_mul, Int32.add_assoc, nI_add, xu]
      have i2 : 64 * nI (x_b X i) + nI k * nI (x_P X (x_b X i) 2) + nI (r % x_P X (x_b X i) 2) = 64 * nI (x_b X i) + nI (x_v X i r k) := by
        rw [nI_mul, Int32.add_assoc, nI_add, xv]
      obtain ⟨b1, b2⟩ := rB_rd ok hi' hr (fun j hj => gs_v (hv j hj) gs) (show x_o X i < 5 by omega) kt
      obtain ⟨s2, p1, p2⟩ := rgv_1 ok hm hi hr hN gV hy (by omega) kt gs (x := fB X V i r k) (by rw [ho]; rfl)
      obtain ⟨a1, a2⟩ := rA_rd ok hi' hr (fun j hj => gs_v (hv j hj) p2) (show x_o X i < 16 by omega) kt
      obtain ⟨s3, p3, p4⟩ := rgv_2 ok hm hi hr hN gV hy (by omega) kt p2 (x := fA X V i r k) (by rw [ho]; rfl)
      obtain ⟨s', p5, p6⟩ := ih (k + 1) f' s3 (by omega) (by omega) p4
      refine ⟨s', ?_, p6⟩
      rw [kb_PM_giveProduct_35, if_neg (by rw [nI_leI (by omega) (by omega)]; omega), if_neg z, if_neg z, D2, i1, i2, rn_load b1 b2, kk_some, p1, kk_some, rn_load a1 a2, kk_some, p3, kk_some, nI_1]
      exact p5
  unfold kf_PM_giveProduct kb_PM_giveProduct_0
  rw [t4, Option.bind_some, t5, Option.bind_some]
  have sB : kf_PM_sideOf N s (nI (x_b X i)) 1 = some (nI (x_P X (x_b X i) 2), s) := by
    have := rn_side st ok N (k := 1) v2 (by omega)
    rw [if_pos (by omega), sb] at this
    exact this
  have sA : kf_PM_sideOf N s (nI (x_a X i)) 1 = some (nI (x_P X (x_a X i) 2), s) := by
    have := rn_side st ok N (k := 1) g2 (by omega)
    rw [if_pos (by omega), sa] at this
    exact this
  rw [sB, kk_some, sA, kk_some]
  exact lp (x_t X i) 0 N s (by omega) (by omega) g
theorem rv_al {X : tX} {σ : kS} {V : tF} (h : rSt X σ) (ok : x_ok X) {m : Nat} (hm : m < x_n X) {i : Nat} (hi : i ≤ m) {r : Nat} (hr : r < x_c X i) (hv : ∀ j, j < i → vR X V σ j) {N : Nat} (hN : 300 ≤ N) (gV : gF V) {y : Option Rat} (hy : fG y) (h5 : 5 ≤ x_o X i) (h8 : x_o X i < 8) {S : tF} {s : kS} (g : GS X m σ y S s) {k0 : Int32} (hk0 : x_o X i = 7 → k0 = if wld (fA X V i r) (x_t X i) = true then -1 else nI (grt (fA X V i r) (x_t X i))) : ∃ s', kb_PM_give_88 N s (nI i) (nI r) (nI (x_a X i)) (nI (x_o X i)) (64 * nI (x_a X i)) (nI (x_t X i)) k0 = some ((), s') ∧ GS X m σ y (gvs X V i r y S (x_t X i)) s' := by
  have hn := ok.1
  have _ := hv
  have hi' : i < x_n X := by omega
  have tb := xt_b ok hi' (by omega)
  have lp : ∀ d k fu s1, d + k = x_t X i → d < fu → GS X m σ y (gvs X V i r y S k) s1 → ∃ s', kb_PM_give_93 N fu s1 (nI i) (nI r) (nI (x_a X i)) (nI (x_o X i)) (64 * nI (x_a X i)) (nI (x_t X i)) k0 (nI k) = some ((), s') ∧ GS X m σ y (gvs X V i r y S (x_t X i)) s' := by
    intro d
    induction d with
    | zero =>
      intro k fu s1 hd hf gs
      obtain ⟨f', rfl⟩ : ∃ f', fu = f' + 1 := ⟨fu - 1, by omega⟩
      have : k = x_t X i := by omega
      subst this
      refine ⟨s1, ?_, gs⟩
      rw [kb_PM_give_93, if_pos (Int32.le_refl _)]
      rfl
    | succ d ih =>
      intro k fu s1 hd hf gs
      obtain ⟨f', rfl⟩ : ∃ f', fu = f' + 1 := ⟨fu - 1, by omega⟩
      have kt : k < x_t X i := by omega
      have st := gs_st h gs
      obtain ⟨q1, q2, q3, q4, q5⟩ := st.2 i hi'
      have t5 : ∀ x, mj_tab ((kPQ s1 x).2.2.1 5) 50 (nI i) = some (nI (x_b X i)) := fun x => by
        show mj_tab (s1.2.2.1 5) 50 (nI i) = _
        rw [mj_tab_nI (by omega) (by omega), q3]; exact congrArg some (if_neg (by omega))
      obtain ⟨s2, p1, p2⟩ := rgv_1 ok hm hi hr hN gV hy (by omega) kt gs (x := ow1 (x_o X i) (x_t X i) (fA X V i r) (fB X V i r) k) rfl
      have p2' : GS X m σ y (gvs X V i r y S (k + 1)) s2 := by
        show GS X m σ y (gv2 X V i r y k (gv1 X V i r y k (gvs X V i r y S k))) s2
        rw [gv2_no (by omega)]
        exact p2
      obtain ⟨s', p5, p6⟩ := ih (k + 1) f' s2 (by omega) (by omega) p2'
      have e167 : kb_PM_give_167 N (kb_PM_give_93 N f') (kPQ s1 (ow1 (x_o X i) (x_t X i) (fA X V i r) (fB X V i r) k)) (nI i) (nI r) (nI (x_a X i)) (nI (x_o X i)) (64 * nI (x_a X i)) (nI (x_t X i)) k0 (nI k) = some ((), s') := by
        unfold kb_PM_give_167
        rw [t5, Option.bind_some, rn_al (gs_st h (gs_PQ gs _)) ok hi' hr hN h5 h8 k, kk_some, p1, kk_some, nI_1]
        exact p5
      refine ⟨s', ?_, p6⟩
      rw [kb_PM_give_93, if_neg (by rw [nI_leI (by omega) (by omega)]; omega)]
      unfold kb_PM_give_121 kb_PM_give_141 kb_PM_give_164
      by_cases h7 : x_o X i = 7
      · have ee : ow1 (x_o X i) (x_t X i) (fA X V i r) (fB X V i r) k = (if wld (fA X V i r) (x_t X i) = true then none else if k = grt (fA X V i r) (x_t X i) then some 1 else some 0) := by rw [h7]; rfl
        have gl := grt_lt (fA X V i r) (x_t X i) (by omega)
        have k7 := hk0 h7
        have o7 : nI (x_o X i) = 7 := by rw [h7]; rfl
        rw [ee] at e167
        rw [if_pos o7, if_pos o7]
        by_cases hw : wld (fA X V i r) (x_t X i) = true
        · rw [if_pos hw] at e167 k7
          rw [if_neg (by rw [k7]; decide), L_00 hN, kk_some]
          exact e167
        · rw [if_neg hw] at e167 k7
          rw [if_pos (by rw [k7]; exact nI_pos' (by omega))]
          by_cases hg : k = grt (fA X V i r) (x_t X i)
          · rw [if_pos hg] at e167
            rw [if_pos (by rw [k7, ← hg]), L_11 hN, kk_some]
            exact e167
          · rw [if_neg hg] at e167
            rw [if_neg (by rw [k7, nI_eq (by omega) (by omega)]; exact hg), L_01 hN, kk_some]
            exact e167
      · have o7 : ¬ nI (x_o X i) = 7 := fun q : nI (x_o X i) = 7 => h7 ((nI_eq (b := 7) (by omega) (by omega)).mp q)
        rw [if_neg o7, if_neg o7]
        by_cases h6 : x_o X i = 6
        · have ee : ow1 (x_o X i) (x_t X i) (fA X V i r) (fB X V i r) k = fo 1 (x_t X i : Int) := by rw [h6, fo_invt tb.1 tb.2]; rfl
          have le := kp_least (N := N) (by omega) s1 rg_1 (rg_nat (n := x_t X i) (by omega))
          rw [ee] at e167
          rw [if_pos (show nI (x_o X i) = 6 by rw [h6]; rfl), n2l (by omega), show (1 : Int64) = zL 1 from rfl, le, kk_some]
          exact e167
        · have h5' : x_o X i = 5 := by omega
          have ee : ow1 (x_o X i) (x_t X i) (fA X V i r) (fB X V i r) k = some 1 := by rw [h5']; rfl
          rw [ee] at e167
          rw [if_neg (fun q : nI (x_o X i) = 6 => h6 ((nI_eq (b := 6) (by omega) (by omega)).mp q)), L_11 hN, kk_some]
          exact e167
  exact lp (x_t X i) 0 N s (by omega) (by omega) g
