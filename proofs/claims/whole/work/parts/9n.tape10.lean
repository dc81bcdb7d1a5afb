/-! THE TAPE, 9: what the reference reckons for one cell -/
def vR (X : tX) (V : tF) (σ : kS) (j : Nat) : Prop := ∀ c, c < x_c X j → σ.2.2.2 9 (64 * j + c) = zL (pP (V j c)) ∧ σ.2.2.2 10 (64 * j + c) = zL (pQ (V j c))
theorem vR_rd {X : tX} {V : tF} {σ : kS} {j c : Nat} (ok : x_ok X) (hj : j < x_n X) (h : vR X V σ j) (hc : c < x_c X j) : mj_tabL (σ.2.2.2 9) 3200 (64 * nI j + nI c) = some (zL (pP (V j c))) ∧ mj_tabL (σ.2.2.2 10) 3200 (64 * nI j + nI c) = some (zL (pQ (V j c))) := by
  have hn := ok.1
  have cb := (xc_b ok hj).2
  rw [n64, mj_tabL_nI (by omega) (by omega), mj_tabL_nI (by omega) (by omega), (h c hc).1, (h c hc).2]
  exact ⟨rfl, rfl⟩
theorem rn_load {N : Nat} {σ : kS} {v : Int32} {x : Option Rat} (h1 : mj_tabL (σ.2.2.2 9) 3200 v = some (zL (pP x))) (h2 : mj_tabL (σ.2.2.2 10) 3200 v = some (zL (pQ x))) : kf_PM_load N σ v = some ((), kPQ σ x) := by
  unfold kf_PM_load kb_PM_load_0
  rw [h1, Option.bind_some, kk_letE, kL_3, h2, Option.bind_some]
  rfl
theorem kPQ_P0 {σ : kS} {x y : Option Rat} (h : pQ y = pQ x) : kL (kPQ σ x) 0 (zL (pP y)) = kPQ σ y := by
  unfold kPQ
  rw [h]
  unfold kL
  simp only [Prod.mk.injEq, true_and, and_true]
  funext j
  unfold vp_updL
  by_cases h0 : j = 0
  · subst h0
    simp
  · simp [h0]
theorem xu_8 {X : tX} (ok : x_ok X) {i r : Nat} (hi : i < x_n X) (hr : r < x_c X i) (h8 : x_o X i = 8) : x_u X i r 0 = x_b X i * x_c X i + r := by
  obtain ⟨g1, g2, g3, g4⟩ := x_lt ok hi (by omega)
  obtain ⟨_, _, q⟩ := ok.2 i hi
  obtain ⟨_, _, q⟩ := q (by omega)
  unfold x_fit at q
  rw [if_neg (by omega), if_neg (by omega), if_neg (by omega), if_pos h8] at q
  obtain ⟨u0, u1, u2, u3, u4, u5⟩ := q
  have hA := sh_pos g4
  have s3 := g4.1
  have pd := g4.2.2.1
  have eq := (al_eq (n := x_b X i) (k := 0) (show 3 - x_s X (x_a X i) < 3 by omega) hA u3 u4 u5 hr).1
  have xe : x_u X i r 0 = w_at (wAl (x_P X (x_a X i)) (3 - x_s X (x_a X i)) (x_b X i)) (x_P X i) r 0 := by
    unfold x_u w_1
    rw [if_neg (by omega), if_neg (by omega), if_neg (by omega), if_pos h8]
  have st : st3 (x_P X (x_a X i)) (3 - x_s X (x_a X i)) = x_c X i := by
    show _ = x_P X i 0 * x_P X i 1 * x_P X i 2
    rw [u3, u4, u5, Nat.one_mul]
    obtain e | e | e : 3 - x_s X (x_a X i) = 0 ∨ 3 - x_s X (x_a X i) = 1 ∨ 3 - x_s X (x_a X i) = 2 := by omega
    · rw [e]
      rfl
    · rw [e, if_neg (by omega), if_neg (by omega), pd 0 (by omega), Nat.one_mul]
      rfl
    · rw [e, if_neg (by omega), if_pos rfl, pd 0 (by omega), pd 1 (by omega)]
      rfl
  rw [xe, eq, st, Nat.div_eq_of_lt hr, Nat.mod_eq_of_lt hr, Nat.zero_mul, Nat.zero_add, Nat.add_zero]
theorem xu_id {X : tX} (ok : x_ok X) {i r : Nat} (hi : i < x_n X) (hr : r < x_c X i) (h1 : 10 ≤ x_o X i) (h2 : x_o X i < 15) (k : Nat) : x_u X i r k = r := by
  obtain ⟨g1, g2, g3, g4⟩ := x_lt ok hi (by omega)
  obtain ⟨_, _, q⟩ := ok.2 i hi
  obtain ⟨_, _, q⟩ := q (by omega)
  unfold x_fit at q
  unfold x_u w_1
  rw [if_neg (by omega), if_neg (by omega), if_neg (by omega), if_neg (by omega), if_neg (by omega)] at q ⊢
  by_cases e : x_o X i = 14
  · rw [if_pos e] at q ⊢
    obtain ⟨u0, u1, u3, u4, u5⟩ := q
    show 0 + r / x_P X i 2 / x_P X i 1 * 0 + r / x_P X i 2 % x_P X i 1 * 0 + r % x_P X i 2 * 1 + k * 0 = r
    have c : x_c X i = x_P X i 2 := by show x_P X i 0 * x_P X i 1 * x_P X i 2 = _; rw [u3, u4]; simp
    have rr : r < x_P X i 2 := by omega
    rw [Nat.mod_eq_of_lt rr]
    omega
  · rw [if_neg e, if_neg (by omega)] at q ⊢
    obtain ⟨u0, u1, u3, u4, u5⟩ := q
    exact (sm_eq (k := k) (sh_pos g4) u3 u4 u5 hr).1
theorem xu_15 {X : tX} {i : Nat} (h : x_o X i = 15) (r k : Nat) : x_u X i r k = k ∧ x_t X i = x_c X (x_a X i) := by
  unfold x_u w_1 x_t w_t
  rw [if_neg (by omega), if_neg (by omega), if_neg (by omega), if_neg (by omega), if_neg (by omega), if_neg (by omega), if_pos h, if_neg (by omega), if_neg (by omega), if_neg (by omega), if_pos h]
  refine ⟨?_, rfl⟩
  show 0 + r / x_P X i 2 / x_P X i 1 * 0 + r / x_P X i 2 % x_P X i 1 * 0 + r % x_P X i 2 * 0 + k * 1 = k
  omega
theorem xu_4 {X : tX} (ok : x_ok X) {i r k : Nat} (hi : i < x_n X) (hr : r < x_c X i) (h4 : x_o X i = 4) (hk : k < x_t X i) : x_u X i r k = r / x_P X (x_b X i) 2 * x_P X (x_a X i) 2 + k ∧ x_v X i r k = k * x_P X (x_b X i) 2 + r % x_P X (x_b X i) 2 ∧ x_t X i = x_P X (x_a X i) 2 ∧ x_s X (x_a X i) = 2 ∧ x_s X (x_b X i) = 2 := by
  obtain ⟨g1, g2, g3, g4⟩ := x_lt ok hi (by omega)
  obtain ⟨v1, v2, v3⟩ := x_lt2 ok hi (by omega)
  obtain ⟨_, _, q⟩ := ok.2 i hi
  obtain ⟨_, _, q⟩ := q (by omega)
  unfold x_fit at q
  rw [if_neg (by omega), if_pos h4] at q
  obtain ⟨u1, u2, u3, u4, u5, u6, u7⟩ := q
  have te : x_t X i = x_P X (x_a X i) 2 := by
    unfold x_t w_t
    rw [if_neg (by omega), if_pos h4]
  rw [te] at hk
  obtain ⟨e1, _, e2, _⟩ := ma_eq (sh_pos g4) (sh_pos v3) u4 u5 u6 u7 hr hk
  refine ⟨?_, ?_, te, u2, u3⟩
  · rw [← e1]
    unfold x_u w_1
    rw [if_neg (by omega), if_pos h4]
  · rw [← e2]
    unfold x_v w_2
    rw [if_pos h4]
/-- the state of the reference, but for p and q -/
def sPQ (σ s : kS) : Prop := s = σ ∨ ∃ x, s = kPQ σ x
theorem sPQ_k {σ s : kS} (h : sPQ σ s) (x : Option Rat) : kPQ s x = kPQ σ x := by
  rcases h with rfl | ⟨y, rfl⟩
  · rfl
  · exact kPQ_kPQ _ _ _
theorem sPQ_1 {σ s : kS} (h : sPQ σ s) : s.1 = σ.1 ∧ s.2.2 = σ.2.2 := by
  rcases h with rfl | ⟨y, rfl⟩
  · exact ⟨rfl, rfl⟩
  · exact ⟨rfl, rfl⟩
theorem sPQ_x (σ : kS) (x : Option Rat) : sPQ σ (kPQ σ x) := Or.inr ⟨x, rfl⟩
theorem rSt_PQ {X : tX} {σ s : kS} (h : sPQ σ s) (g : rSt X σ) : rSt X s := by
  unfold rSt at *
  rw [(sPQ_1 h).1, (sPQ_1 h).2]
  exact g
theorem vR_PQ {X : tX} {V : tF} {σ s : kS} {j : Nat} (h : sPQ σ s) (g : vR X V σ j) : vR X V s j := by
  unfold vR at *
  rw [(sPQ_1 h).2]
  exact g
theorem fsm_0 (f : Nat → Option Rat) : zL (pP (fsm f 0)) = 0 ∧ zL (pQ (fsm f 0)) = 1 := ⟨rfl, rfl⟩
theorem rA_rd {X : tX} {σ : kS} {V : tF} (ok : x_ok X) {i : Nat} (hi : i < x_n X) {r : Nat} (hr : r < x_c X i) (hv : ∀ j, j < i → vR X V σ j) (ho : x_o X i < 16) {k : Nat} (hk : k < x_t X i) : mj_tabL (σ.2.2.2 9) 3200 (64 * nI (x_a X i) + nI (x_u X i r k)) = some (zL (pP (fA X V i r k))) ∧ mj_tabL (σ.2.2.2 10) 3200 (64 * nI (x_a X i) + nI (x_u X i r k)) = some (zL (pQ (fA X V i r k))) := by
  obtain ⟨g1, g2, g3, g4⟩ := x_lt ok hi ho
  exact vR_rd ok g2 (hv _ g1) (xu_lt ok hi ho hr hk)
theorem rB_rd {X : tX} {σ : kS} {V : tF} (ok : x_ok X) {i : Nat} (hi : i < x_n X) {r : Nat} (hr : r < x_c X i) (hv : ∀ j, j < i → vR X V σ j) (ho : x_o X i < 5) {k : Nat} (hk : k < x_t X i) : mj_tabL (σ.2.2.2 9) 3200 (64 * nI (x_b X i) + nI (x_v X i r k)) = some (zL (pP (fB X V i r k))) ∧ mj_tabL (σ.2.2.2 10) 3200 (64 * nI (x_b X i) + nI (x_v X i r k)) = some (zL (pQ (fB X V i r k))) := by
  obtain ⟨g1, g2, g3⟩ := x_lt2 ok hi ho
  exact vR_rd ok g2 (hv _ g1) (xv_lt ok hi ho hr hk)
theorem rn_prod {X : tX} {σ : kS} {V : tF} (h : rSt X σ) (ok : x_ok X) {i : Nat} (hi : i < x_n X) {r : Nat} (hr : r < x_c X i) (hv : ∀ j, j < i → vR X V σ j) {N : Nat} (hN : 300 ≤ N) (gV : gF V) (ho : x_o X i = 4) : kf_PM_product N σ (nI i) (nI r) = some ((), kPQ σ (fsm (fun k => fmul (fA X V i r k) (fB X V i r k)) (x_t X i))) := by
  have hn := ok.1
  have tb := xt_b ok hi (by omega)
  have cb := (xc_b ok hi).2
  obtain ⟨q1, q2, q3, q4, q5⟩ := h.2 i hi
  obtain ⟨g1, g2, g3, g4⟩ := x_lt ok hi (by omega)
  obtain ⟨v1, v2, v3⟩ := x_lt2 ok hi (by omega)
  have e4 : σ.2.2.1 4 i = nI (x_a X i) := by rw [q2]; exact if_neg (by omega)
  have e5 : σ.2.2.1 5 i = nI (x_b X i) := by rw [q3]; exact if_neg (by omega)
  obtain ⟨_, _, te, sa, sb⟩ := xu_4 (k := 0) ok hi hr ho (by omega)
  have B2 := v3.2.1 2 (by omega)
  have A2 := g4.2.1 2 (by omega)
  have lp : ∀ d k fu s, d + k = x_t X i → d < fu → sPQ σ s → (0 < k → s = kPQ σ (fsm (fun k => fmul (fA X V i r k) (fB X V i r k)) k)) → kb_PM_product_41 N fu s (nI r) (nI (x_a X i)) (nI (x_b X i)) (nI (x_P X (x_b X i) 2)) (nI (x_P X (x_a X i) 2)) (zL (pP (fsm (fun k => fmul (fA X V i r k) (fB X V i r k)) k))) (zL (pQ (fsm (fun k => fmul (fA X V i r k) (fB X V i r k)) k))) (nI k) = some ((), kPQ σ (fsm (fun k => fmul (fA X V i r k) (fB X V i r k)) (x_t X i))) := by
    intro d
    induction d with
    | zero =>
      intro k fu s hd hf hs hk
      obtain ⟨f', rfl⟩ : ∃ f', fu = f' + 1 := ⟨fu - 1, by omega⟩
      have : k = x_t X i := by omega
      subst this
      rw [kb_PM_product_41, if_pos (by rw [te]; exact Int32.le_refl _), hk (by omega)]
    | succ d ih =>
      intro k fu s hd hf hs hk
      obtain ⟨f', rfl⟩ : ∃ f', fu = f' + 1 := ⟨fu - 1, by omega⟩
      have kt : k < x_t X i := by omega
      obtain ⟨xu, xv, _, _, _⟩ := xu_4 (k := k) ok hi hr ho kt
      obtain ⟨D1, D2⟩ := nI_div (a := r) (b := x_P X (x_b X i) 2) B2.1 (by omega) (by omega)
      have z : ¬ nI (x_P X (x_b X i) 2) = 0 := by rw [show (0 : Int32) = nI 0 from rfl, nI_eq (by omega) (by omega)]; omega
      obtain ⟨a1, a2⟩ := rA_rd ok hi hr hv (by omega) kt
      obtain ⟨b1, b2⟩ := rB_rd ok hi hr hv (by omega) kt
      have i1 : 64 * nI (x_a X i) + nI r / nI (x_P X (x_b X i) 2) * nI (x_P X (x_a X i) 2) + nI k = 64 * nI (x_a X i) + nI (x_u X i r k) := by
        rw [D1, nI_mul, Int32.add_assoc, nI_add, xu]
      have i2 : 64 * nI (x_b X i) + nI k * nI (x_P X (x_b X i) 2) + nI (r % x_P X (x_b X i) 2) = 64 * nI (x_b X i) + nI (x_v X i r k) := by
        rw [nI_mul, Int32.add_assoc, nI_add, xv]
      have g := ih (k + 1) f' (kPQ σ (fsm (fun k => fmul (fA X V i r k) (fB X V i r k)) (k + 1))) (by omega) (by omega) (sPQ_x _ _) (fun _ => rfl)
      rw [kb_PM_product_41, if_neg (by rw [nI_leI (by omega) (by omega)]; omega), if_neg z, if_neg z, D2, i1, i2, (sPQ_1 hs).2, a1, Option.bind_some, a2, Option.bind_some, b1, Option.bind_some, b2, Option.bind_some, kp_times (by omega) s (gV _ _) (gV _ _), kk_some, sPQ_k hs, kPQ_p, kPQ_q, kp_plus (by omega) _ (fG_fsm _ _) (fG_mul _ _), kk_some, kPQ_kPQ, nI_1, kPQ_p, kPQ_q]
      exact g
  unfold kf_PM_product kb_PM_product_0
  rw [mj_tab_nI (by omega) (by omega), Option.bind_some, mj_tab_nI (by omega) (by omega), Option.bind_some, e4, e5]
  have sB : kf_PM_sideOf N σ (nI (x_b X i)) 1 = some (nI (x_P X (x_b X i) 2), σ) := by
    have := rn_side h ok N (k := 1) v2 (by omega)
    rw [if_pos (by omega), sb] at this
    exact this
  have sA : kf_PM_sideOf N σ (nI (x_a X i)) 1 = some (nI (x_P X (x_a X i) 2), σ) := by
    have := rn_side h ok N (k := 1) g2 (by omega)
    rw [if_pos (by omega), sa] at this
    exact this
  rw [sB, kk_some, sA, kk_some]
  exact lp (x_t X i) 0 N σ (by omega) (by omega) (Or.inl rfl) (fun w => absurd w (by omega))
theorem rn_great {X : tX} {σ : kS} {V : tF} (h : rSt X σ) (ok : x_ok X) {i : Nat} (hi : i < x_n X) {r : Nat} (hr : r < x_c X i) (hv : ∀ j, j < i → vR X V σ j) {N : Nat} (hN : 300 ≤ N) (gV : gF V) (h5 : 5 ≤ x_o X i) (h8 : x_o X i < 8) : kf_PM_greatest N σ (nI i) (nI r) = some (if wld (fA X V i r) (x_t X i) = true then -1 else nI (grt (fA X V i r) (x_t X i)), σ) := by
  have hn := ok.1
  have tb := xt_b ok hi (by omega)
  obtain ⟨q1, q2, q3, q4, q5⟩ := h.2 i hi
  obtain ⟨g1, g2, g3, g4⟩ := x_lt ok hi (by omega)
  have e4 : σ.2.2.1 4 i = nI (x_a X i) := by rw [q2]; exact if_neg (by omega)
  have e5 : σ.2.2.1 5 i = nI (x_b X i) := by rw [q3]; exact if_neg (by omega)
  obtain ⟨_, _, q⟩ := ok.2 i hi
  obtain ⟨_, _, q⟩ := q (by omega)
  unfold x_fit at q
  rw [if_neg (by omega), if_neg (by omega), if_pos h8] at q
  have s3 := g4.1
  have sd : kf_PM_sideOf N σ (nI (x_a X i)) (nI (x_b X i)) = some (nI (x_t X i), σ) := by
    rw [rn_side h ok N g2 (by omega), if_pos q.1]
    unfold x_t w_t
    rw [if_neg (by omega), if_neg (by omega), if_pos h8]
  have t5 : mj_tab (σ.2.2.1 5) 50 (nI i) = some (nI (x_b X i)) := by rw [mj_tab_nI (by omega) (by omega), e5]
  have lp : ∀ d k fu, d + k = x_t X i → d < fu → wld (fA X V i r) k = false → kb_PM_greatest_26 N fu σ (nI i) (nI r) (nI (x_a X i)) (nI (x_t X i)) (nI (grt (fA X V i r) k)) (nI k) = some (if wld (fA X V i r) (x_t X i) = true then -1 else nI (grt (fA X V i r) (x_t X i)), σ) := by
    intro d
    induction d with
    | zero =>
      intro k fu hd hf hw
      obtain ⟨f', rfl⟩ : ∃ f', fu = f' + 1 := ⟨fu - 1, by omega⟩
      have : k = x_t X i := by omega
      subst this
      rw [kb_PM_greatest_26, if_pos (Int32.le_refl _), hw]
      rfl
    | succ d ih =>
      intro k fu hd hf hw
      obtain ⟨f', rfl⟩ : ∃ f', fu = f' + 1 := ⟨fu - 1, by omega⟩
      have hg : grt (fA X V i r) k < x_t X i := by
        by_cases k0 : k = 0
        · subst k0
          exact Nat.lt_of_lt_of_le Nat.zero_lt_one tb.1
        · have := grt_lt (fA X V i r) k (by omega)
          omega
      obtain ⟨a1, a2⟩ := rA_rd ok hi hr hv (show x_o X i < 16 by omega) (show k < x_t X i by omega)
      obtain ⟨b1, b2⟩ := rA_rd ok hi hr hv (show x_o X i < 16 by omega) hg
      rw [kb_PM_greatest_26, if_neg (by rw [nI_leI (by omega) (by omega)]; omega), t5, Option.bind_some, rn_al h ok hi hr hN h5 h8 k, kk_some, t5, Option.bind_some, rn_al h ok hi hr hN h5 h8 (grt (fA X V i r) k), kk_some, a2, Option.bind_some]
      by_cases hz : fA X V i r k = none
      · have z : lg_cmp (zL (pQ (fA X V i r k))) 0 = 0 := by
          rw [hz]
          exact (lg_eq0 _ _).mpr rfl
        have w1 : wld (fA X V i r) (k + 1) = true := by
          unfold wld
          rw [hz, Option.isNone_none, Bool.or_true]
        rw [if_pos z, wld_up _ (show k + 1 ≤ x_t X i by omega) w1]
        rfl
      · have z : ¬ lg_cmp (zL (pQ (fA X V i r k))) 0 = 0 := by
          rw [zL_0, zg_eq (rg_pQ (gV _ _)) rg_0]
          exact fun q => hz (pQ_0.mp q)
        have w1 : wld (fA X V i r) (k + 1) = false := by
          unfold wld
          rw [hw, Bool.false_or]
          cases hq : fA X V i r k with
          | none => exact absurd hq hz
          | some _ => rfl
        rw [if_neg z, a1, Option.bind_some, Option.bind_some, b1, Option.bind_some, b2, Option.bind_some, kp_isAbove N (gV _ _) (gV _ _), Option.bind_some]
        have gs : grt (fA X V i r) (k + 1) = if fab (fA X V i r k) (fA X V i r (grt (fA X V i r) k)) then k else grt (fA X V i r) k := rfl
        have := ih (k + 1) f' (by omega) (by omega) w1
        unfold kb_PM_greatest_127
        rw [nI_1]
        by_cases hb : fab (fA X V i r k) (fA X V i r (grt (fA X V i r) k))
        · rw [gs, if_pos hb] at this
          rw [bI_t hb, if_neg (by decide)]
          exact this
        · rw [gs, if_neg hb] at this
          rw [bI_f hb, if_pos rfl]
          exact this
  unfold kf_PM_greatest kb_PM_greatest_0
  rw [mj_tab_nI (by omega) (by omega), Option.bind_some, mj_tab_nI (by omega) (by omega), Option.bind_some, e4, e5, sd, kk_some]
  exact lp (x_t X i) 0 N (by omega) (by omega) rfl
