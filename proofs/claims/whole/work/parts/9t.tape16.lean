/-! THE TAPE, 15: the reference's slopes, all nodes -/
abbrev fSl (σ s : kS) : Prop := kfr [] [0, 1, 15, 16] [] [13, 14] σ s
theorem rSt_sl {X : tX} {σ s : kS} (h : fSl σ s) (g : rSt X σ) : rSt X s := rSt_fr h (by decide) (by decide) (by decide) (by decide) (by decide) (by decide) g
theorem vR_sl {X : tX} {V : tF} {σ s : kS} {j : Nat} (h : fSl σ s) (g : vR X V σ j) : vR X V s j := by
  unfold vR at *
  rw [h.2.2.2 9 (by decide), h.2.2.2 10 (by decide)]
  exact g
theorem f_zero {x : Option Rat} : x = some 0 ↔ pP x = 0 ∧ ¬ pQ x = 0 := by
  cases x with
  | none => exact ⟨fun h => (nomatch h), fun h => absurd rfl h.2⟩
  | some r =>
    constructor
    · intro h
      cases h
      exact ⟨rfl, by decide⟩
    · intro h
      have n0 : r.num = 0 := h.1
      rw [Rat.num_eq_zero.mp n0]
def HS (X : tX) (m : Nat) (σ : kS) (S : tF) (s : kS) : Prop := fSl σ s ∧ gF S ∧ ∀ j, j ≤ m → hR 13 14 X S s j
theorem rT_nd {X : tX} {σ : kS} {V : tF} (h : rSt X σ) (ok : x_ok X) {m : Nat} (hm : m < x_n X) {i : Nat} (hi : i ≤ m) (hv : ∀ j, j < i → vR X V σ j) {N : Nat} (hN : 300 ≤ N) (gV : gF V) (ho : x_o X i < 16) (v2 : Int32) {S : tF} : ∀ d r fu s, d + r = x_c X i → d < fu → HS X m σ (gnd X V i S r) s → ∃ s', (∀ c68, kb_PM_slopes_97 N c68 fu s v2 (nI i) (nI (x_c X i)) (nI r) = c68 s' v2 (nI i + (-1))) ∧ HS X m σ (gnd X V i S (x_c X i)) s' := by
  have hn := ok.1
  have hi' : i < x_n X := by omega
  have cb := (xc_b ok hi').2
  intro d
  induction d with
  | zero =>
    intro r fu s hd hf hs
    obtain ⟨f', rfl⟩ : ∃ f', fu = f' + 1 := ⟨fu - 1, by omega⟩
    have : r = x_c X i := by omega
    subst this
    refine ⟨s, fun c68 => ?_, hs⟩
    rw [kb_PM_slopes_97, if_pos (Int32.le_refl _)]
    rfl
  | succ d ih =>
    intro r fu s hd hf hs
    obtain ⟨f', rfl⟩ : ∃ f', fu = f' + 1 := ⟨fu - 1, by omega⟩
    have hr : r < x_c X i := by omega
    obtain ⟨h1, h2, h3⟩ := hs
    obtain ⟨w1, w2⟩ := h3 i hi r hr
    generalize hy : gnd X V i S r i r = y at w1 w2
    have gy : fG y := by rw [← hy]; exact h2 _ _
    obtain ⟨s1, hs1⟩ : ∃ s1, s1 = kL (kL s 15 (zL (pP y))) 16 (zL (pQ y)) := ⟨_, rfl⟩
    have f1 : fSl s s1 := by rw [hs1]; exact kfr_trans (kfr_L (by decide)) (kfr_L (by decide))
    have f2 : fSl σ s1 := kfr_trans h1 f1
    have hR1 : ∀ j, j ≤ m → hR 13 14 X (gnd X V i S r) s1 j := fun j hj => by rw [hs1]; exact h3 j hj
    have l15 : s1.2.1 15 = zL (pP y) := by rw [hs1]; rfl
    have l16 : s1.2.1 16 = zL (pQ y) := by rw [hs1]; rfl
    have e : ∃ s2, HS X m σ (gnd X V i S (r + 1)) s2 ∧ ∀ c68, kb_PM_slopes_97 N c68 (f' + 1) s v2 (nI i) (nI (x_c X i)) (nI r) = kb_PM_slopes_97 N c68 f' s2 v2 (nI i) (nI (x_c X i)) (nI (r + 1)) := by
      have hd1 : ∀ c68, kb_PM_slopes_97 N c68 (f' + 1) s v2 (nI i) (nI (x_c X i)) (nI r) = if lg_cmp (zL (pP y)) 0 = 0 then (if lg_cmp (zL (pQ y)) 0 = 0 then kb_PM_slopes_154 N c68 (kb_PM_slopes_97 N c68 f') s1 v2 (nI i) (nI (x_c X i)) (nI r) else kb_PM_slopes_161 N c68 (kb_PM_slopes_97 N c68 f') s1 v2 (nI i) (nI (x_c X i)) (nI r)) else kb_PM_slopes_154 N c68 (kb_PM_slopes_97 N c68 f') s1 v2 (nI i) (nI (x_c X i)) (nI r) := fun c68 => by
        rw [kb_PM_slopes_97, if_neg (by rw [nI_leI (by omega) (by omega)]; omega), n64, mj_tabL_nI (by omega) (by omega), Option.bind_some, w1, kk_letE, kL_3, mj_tabL_nI (by omega) (by omega), Option.bind_some, w2, kk_letE, ← hs1, l15, l16]
      by_cases h0 : y = some 0
      · refine ⟨s1, ⟨f2, gF_gcl h2, fun j hj => ?_⟩, fun c68 => ?_⟩
        · show hR 13 14 X (gcl X V i r (gnd X V i S r)) s1 j
          unfold gcl
          rw [if_pos (hy.trans h0)]
          exact hR1 j hj
        · obtain ⟨y1, y2⟩ := f_zero.mp h0
          rw [hd1, if_pos (by rw [zL_0, zg_eq (rg_pP gy) rg_0]; exact y1), if_neg (by rw [zL_0, zg_eq (rg_pQ gy) rg_0]; exact y2)]
          unfold kb_PM_slopes_161
          rw [nI_1]
      · obtain ⟨s2, p1, p2⟩ := rv_give (rSt_sl f2 h) ok hm hi hr (fun j hj => vR_sl f2 (hv j hj)) hN gV gy ho (S := gnd X V i S r) (s := s1) ⟨kfr_refl _ _ _ _ _, l15, l16, h2, hR1⟩
        refine ⟨s2, ⟨kfr_trans f2 (kfr_mono p2.1 (by decide) (by decide) (by decide) (by decide)), gF_gcl h2, fun j hj => ?_⟩, fun c68 => ?_⟩
        · show hR 13 14 X (gcl X V i r (gnd X V i S r)) s2 j
          unfold gcl
          rw [if_neg (fun w => h0 (hy.symm.trans w)), hy]
          exact p2.2.2.2.2 j hj
        · have e154 : kb_PM_slopes_154 N c68 (kb_PM_slopes_97 N c68 f') s1 v2 (nI i) (nI (x_c X i)) (nI r) = kb_PM_slopes_97 N c68 f' s2 v2 (nI i) (nI (x_c X i)) (nI (r + 1)) := by
            unfold kb_PM_slopes_154 kb_PM_slopes_161
            rw [p1, kk_some, nI_1]
          rw [hd1, e154]
          by_cases y1 : lg_cmp (zL (pP y)) 0 = 0
          · have y2 : lg_cmp (zL (pQ y)) 0 = 0 := by
              rw [zL_0, zg_eq (rg_pP gy) rg_0] at y1
              rw [zL_0, zg_eq (rg_pQ gy) rg_0]
              by_cases y3 : pQ y = 0
              · exact y3
              · exact absurd (f_zero.mpr ⟨y1, y3⟩) h0
            rw [if_pos y1, if_pos y2]
          · rw [if_neg y1]
    obtain ⟨s2, e1, e2⟩ := e
    obtain ⟨s', p1, p2⟩ := ih (r + 1) f' s2 (by omega) (by omega) e1
    exact ⟨s', fun c68 => (e2 c68).trans (p1 c68), p2⟩
theorem oI_no {o v : Nat} (h : o < 16) (hv : v < 2 ^ 31) : ¬ oI o v = -2 := by
  rw [show oI o v = nI v from if_neg (by omega)]
  intro w
  have := congrArg Int32.toInt w
  rw [nI_toInt (by omega), show (-2 : Int32).toInt = -2 from by decide] at this
  omega
theorem rT_dn {X : tX} {σ : kS} {V : tF} (h : rSt X σ) (ok : x_ok X) {m : Nat} (hm : m < x_n X) (hv : ∀ j, j ≤ m → vR X V σ j) {N : Nat} (hN : 300 ≤ N) (gV : gF V) (v2 : Int32) (fu : Nat) : ∀ d i s S, d ≤ i → i ≤ m → (∀ j, i - d < j → j ≤ i → ¬ nI j ≤ v2) → HS X m σ S s → ∃ s', kb_PM_slopes_68 N (fu + d) s v2 (nI i) = kb_PM_slopes_68 N fu s' v2 (nI (i - d)) ∧ HS X m σ (gsl X V d i S) s' := by
  have hn := ok.1
  intro d
  induction d with
  | zero =>
    intro i s S _ hi hj hs
    exact ⟨s, rfl, hs⟩
  | succ d ih =>
    intro i s S hd hi hj hs
    have hi' : i < x_n X := by omega
    have cb := (xc_b ok hi').2
    have st := rSt_sl hs.1 h
    have hh := ih (i - 1)
    rw [show fu + (d + 1) = (fu + d) + 1 from rfl, kb_PM_slopes_68, if_neg (hj i (by omega) (Nat.le_refl _)), mj_tab_nI (by omega) (by omega), Option.bind_some, (st.2 i hi').1]
    by_cases ho : x_o X i = 16
    · obtain ⟨s', p1, p2⟩ := hh s S (by omega) (by omega) (fun j h1 h2 => hj j (by omega) (by omega)) hs
      refine ⟨s', ?_, ?_⟩
      · rw [if_pos (show oI (x_o X i) (x_o X i) = -2 from if_pos ho)]
        unfold kb_PM_slopes_167
        rw [nI_dn (by omega), p1]
        congr 2
        omega
      · show HS X m σ (gsl X V d (i - 1) (if x_o X i < 16 then _ else S)) s'
        rw [if_neg (by omega)]
        exact p2
    · have ho' : x_o X i < 16 := by
        have := (ok.2 i hi').1
        omega
      obtain ⟨s1, q1, q2⟩ := rT_nd h ok hm hi (fun j hj => hv j (by omega)) hN gV ho' v2 (S := S) (x_c X i) 0 N s (by omega) (by omega) hs
      obtain ⟨s', p1, p2⟩ := hh s1 _ (by omega) (by omega) (fun j h1 h2 => hj j (by omega) (by omega)) q2
      refine ⟨s', ?_, ?_⟩
      · have g := q1 (kb_PM_slopes_68 N (fu + d))
        rw [if_neg (oI_no ho' (by omega)), rn_cells st ok hN hi', kk_some, show (0 : Int32) = nI 0 from rfl, g, nI_dn (by omega), p1]
        congr 2
        omega
      · show HS X m σ (gsl X V d (i - 1) (if x_o X i < 16 then _ else S)) s'
        rw [if_pos ho']
        exact p2
theorem rT_zero {X : tX} {σ : kS} (ok : x_ok X) {m : Nat} (hm : m < x_n X) {N : Nat} (v2 : Int32) : ∀ d k fu s, d + k = 64 * (m + 1) → d < fu → fSl σ s → (∀ q, q < k → s.2.2.2 13 q = 0 ∧ s.2.2.2 14 q = 1) → ∃ s', kb_PM_slopes_7 N fu s (nI m) v2 (nI k) = kb_PM_slopes_39 N N s' (nI m) v2 0 ∧ fSl σ s' ∧ ∀ q, q < 64 * (m + 1) → s'.2.2.2 13 q = 0 ∧ s'.2.2.2 14 q = 1 := by
  have hn := ok.1
  have e64 : (64 : Int32) * (nI m + 1) = nI (64 * (m + 1)) := by
    rw [nI_1, show (64 : Int32) = nI 64 from rfl, nI_mul]
  intro d
  induction d with
  | zero =>
    intro k fu s hd hf hs hz
    obtain ⟨f', rfl⟩ : ∃ f', fu = f' + 1 := ⟨fu - 1, by omega⟩
    have : k = 64 * (m + 1) := by omega
    subst this
    refine ⟨s, ?_, hs, hz⟩
    rw [kb_PM_slopes_7, e64, if_pos (Int32.le_refl _)]
  | succ d ih =>
    intro k fu s hd hf hs hz
    obtain ⟨f', rfl⟩ : ∃ f', fu = f' + 1 := ⟨fu - 1, by omega⟩
    obtain ⟨s', p⟩ := ih (k + 1) f' (kB (kB s 13 k 0) 14 k 1) (by omega) (by omega) (kfr_trans hs (kfr_trans (kfr_B (by decide)) (kfr_B (by decide)))) (fun q hq => by
      rw [kB_4, if_neg (fun w => absurd w.1 (by decide)), kB_4, kB_4]
      by_cases e : q = k
      · rw [if_pos ⟨rfl, e⟩, if_pos ⟨rfl, e⟩]
        exact ⟨rfl, rfl⟩
      · rw [if_neg (fun w => e w.2), if_neg (fun w => e w.2), kB_4, if_neg (fun w => e w.2)]
        exact hz q (by omega))
    refine ⟨s', ?_, p.2⟩
    rw [kb_PM_slopes_7, e64, if_neg (by rw [nI_leI (by omega) (by omega)]; omega), mj_gd_nI (by omega) (by omega), kk_letE, mj_gd_nI (by omega) (by omega), kk_letE, nI_clamp (by omega), nI_1]
    exact p.1
theorem rT_one {X : tX} {σ : kS} (h : rSt X σ) (ok : x_ok X) {m : Nat} (hm : m < x_n X) {N : Nat} (hN : 300 ≤ N) (v2 : Int32) : ∀ d c fu s, d + c = x_c X m → d < fu → fSl σ s → (∀ q, q < 64 * (m + 1) → s.2.2.2 13 q = (if 64 * m ≤ q ∧ q < 64 * m + c then 1 else 0) ∧ s.2.2.2 14 q = 1) → ∃ s', kb_PM_slopes_39 N fu s (nI m) v2 (nI c) = kb_PM_slopes_68 N N s' v2 (nI m) ∧ HS X m σ (S0 m) s' := by
  have hn := ok.1
  have cb := (xc_b ok hm).2
  intro d
  induction d with
  | zero =>
    intro c fu s hd hf hs hz
    obtain ⟨f', rfl⟩ : ∃ f', fu = f' + 1 := ⟨fu - 1, by omega⟩
    have : c = x_c X m := by omega
    subst this
    refine ⟨s, ?_, hs, gF_S0 m, fun j hj c hc => ?_⟩
    · rw [kb_PM_slopes_39, rn_cells (rSt_sl hs h) ok hN hm, kk_some, if_pos (Int32.le_refl _)]
    · have cj := (xc_b ok (show j < x_n X by omega)).2
      obtain ⟨z1, z2⟩ := hz (64 * j + c) (by omega)
      rw [z1, z2]
      unfold S0
      by_cases e : j = m
      · subst e
        rw [if_pos ⟨by omega, by omega⟩, if_pos rfl]
        exact ⟨rfl, rfl⟩
      · rw [if_neg (by omega), if_neg e]
        exact ⟨rfl, rfl⟩
  | succ d ih =>
    intro c fu s hd hf hs hz
    obtain ⟨f', rfl⟩ : ∃ f', fu = f' + 1 := ⟨fu - 1, by omega⟩
    obtain ⟨s', p⟩ := ih (c + 1) f' (kB s 13 (64 * m + c) 1) (by omega) (by omega) (kfr_trans hs (kfr_B (by decide))) (fun q hq => by
      obtain ⟨z1, z2⟩ := hz q hq
      rw [kB_ne _ _ _ _ (show 14 ≠ 13 by decide), kB_4, z1, z2]
      refine ⟨?_, rfl⟩
      by_cases e : q = 64 * m + c
      · rw [if_pos ⟨rfl, e⟩, if_pos ⟨by omega, by omega⟩]
      · rw [if_neg (fun w => e w.2)]
        by_cases e2 : 64 * m ≤ q ∧ q < 64 * m + c
        · rw [if_pos e2, if_pos ⟨e2.1, by omega⟩]
        · rw [if_neg e2, if_neg (by omega)])
    refine ⟨s', ?_, p.2⟩
    rw [kb_PM_slopes_39, rn_cells (rSt_sl hs h) ok hN hm, kk_some, if_neg (by rw [nI_leI (by omega) (by omega)]; omega), n64, mj_gd_nI (by omega) (by omega), kk_letE, nI_clamp (by omega), nI_1]
    exact p.1
abbrev fAl (σ s : kS) : Prop := kfr [] [0, 1, 15, 16] [] [9, 10, 13, 14] σ s
/-- slopes from node m down to node b + 1, or to the first (v2 = -1) -/
theorem rT_slopes {X : tX} {σ : kS} {V : tF} (ok : x_ok X) {N : Nat} (hN : 4000 ≤ N) (gV : gF V) (xv : xV X V) {m : Nat} (hm : m < x_n X) (h : rSt X σ) (hl : ∀ j, j < x_n X → x_o X j = 16 → vR X V σ j) {b : Nat} (hb : b ≤ m) {v2 : Int32} (hv : v2 = nI b ∨ (v2 = -1 ∧ b = 0)) : ∃ s, kf_PM_slopes N σ (nI m) v2 = some ((), s) ∧ fAl σ s ∧ (∀ j, j < x_n X → (j ≤ m ∨ x_o X j = 16) → vR X V s j) ∧ gF (gsl X V (m - b) m (S0 m)) ∧ ∀ j, j ≤ m → hR 13 14 X (gsl X V (m - b) m (S0 m)) s j := by
  have hn := ok.1
  obtain ⟨s0, a1, a2, a3⟩ := rT_reck ok (show 300 ≤ N by omega) gV xv hm h hl
  have h0 := rSt_rk a2 h
  obtain ⟨s1, b1, b2, b3⟩ := rT_zero (σ := s0) ok hm (N := N) v2 (64 * (m + 1)) 0 N s0 (by omega) (by omega) (kfr_refl _ _ _ _ _) (fun q hq => absurd hq (by omega))
  obtain ⟨s2, c1, c2⟩ := rT_one h0 ok hm (show 300 ≤ N by omega) v2 (x_c X m) 0 N s1 (by omega) (by have := (xc_b ok hm).2; omega) b2 (fun q hq => by
    rw [if_neg (by omega)]
    exact b3 q hq)
  have nl : ∀ j, m - (m - b) < j → j ≤ m → ¬ nI j ≤ v2 := fun j h1 h2 => by
    rcases hv with rfl | ⟨rfl, rfl⟩
    · rw [nI_leI (by omega) (by omega)]
      omega
    · intro q
      rw [Int32.le_iff_toInt_le, nI_toInt (by omega), show (-1 : Int32).toInt = -1 from by decide] at q
      omega
  obtain ⟨f', hf'⟩ : ∃ f', N = f' + 3 + (m - b) := ⟨N - 3 - (m - b), by omega⟩
  obtain ⟨s3, d1, d2⟩ := rT_dn h0 ok hm (fun j hj => a3 j (by omega) (Or.inl hj)) (show 300 ≤ N by omega) gV v2 (f' + 3) (m - b) m s2 (S0 m) (by omega) (Nat.le_refl _) nl c2
  rw [← hf', show m - (m - b) = b by omega] at d1
  refine ⟨s3, ?_, kfr_trans (kfr_mono a2 (by decide) (by decide) (by decide) (by decide)) (kfr_mono d2.1 (by decide) (by decide) (by decide) (by decide)), fun j hj w => vR_sl d2.1 (a3 j hj w), d2.2.1, d2.2.2⟩
  unfold kf_PM_slopes kb_PM_slopes_0
  rw [a1, kk_some, show (0 : Int32) = nI 0 from rfl, b1, show (0 : Int32) = nI 0 from rfl, c1, d1]
  rcases hv with rfl | ⟨rfl, rfl⟩
  · rw [kb_PM_slopes_68, if_pos (Int32.le_refl _)]
  · have st := rSt_sl d2.1 h0
    have o0 : x_o X 0 = 16 := by
      have := (ok.2 0 (by omega)).1
      by_cases e : x_o X 0 < 16
      · have := (x_lt ok (show 0 < x_n X by omega) e).1
        omega
      · omega
    rw [kb_PM_slopes_68, if_neg (by decide), mj_tab_nI (by omega) (by omega), Option.bind_some, (st.2 0 (by omega)).1, if_pos (show oI (x_o X 0) (x_o X 0) = -2 from if_pos o0)]
    unfold kb_PM_slopes_167
    rw [show nI 0 + (-1) = -1 from rfl, kb_PM_slopes_68, if_pos (by decide)]
