/-! THE TAPE, 19: the calls ways and count -/
def wup (W : Nat → Nat) (j x : Nat) : Nat → Nat := fun i => if i = j then x else W i
/-- node i passes its ways on -/
def wst (X : tX) (i : Nat) (W : Nat → Nat) : Nat → Nat :=
  if x_o X i < 5 then wup (wup W (x_a X i) (min 1000000000000000000 (W (x_a X i) + W i))) (x_b X i) (min 1000000000000000000 (wup W (x_a X i) (min 1000000000000000000 (W (x_a X i) + W i)) (x_b X i) + W i)) else
  if x_o X i < 16 then wup W (x_a X i) (min 1000000000000000000 (W (x_a X i) + W i)) else W
def wdn (X : tX) : Nat → Nat → (Nat → Nat) → Nat → Nat
  | 0, _, W => W
  | d + 1, i, W => wdn X d (i - 1) (wst X i W)
def W0 (m : Nat) : Nat → Nat := fun i => if i = m then 1 else 0
def wB (W : Nat → Nat) : Prop := ∀ i, W i ≤ 1000000000000000000
theorem wB_up {W : Nat → Nat} (h : wB W) (j x : Nat) (hx : x ≤ 1000000000000000000) : wB (wup W j x) := fun i => by
  unfold wup
  split
  · exact hx
  · exact h i
theorem wB_st {X : tX} {i : Nat} {W : Nat → Nat} (h : wB W) : wB (wst X i W) := by
  unfold wst
  split
  · exact wB_up (wB_up h _ _ (Nat.min_le_left _ _)) _ _ (Nat.min_le_left _ _)
  · split
    · exact wB_up h _ _ (Nat.min_le_left _ _)
    · exact h
theorem wB_0 (m : Nat) : wB (W0 m) := fun i => by
  unfold W0
  split <;> omega
theorem tP_4 (τ : tS) (i k : Nat) (v : Int64) (j g : Nat) : (tP τ i k v).2.2.2.1 j g = if j = i ∧ g = k then v else τ.2.2.2.1 j g := by
  unfold tP va_up vp_updL
  by_cases h1 : j = i
  · subst h1
    by_cases h2 : g = k
    · simp [h2]
    · simp [h2]
  · simp [h1]
/-- states of the class that differ in the ways alone -/
def tsp (τ τ' : tS) : Prop := τ'.1 = τ.1 ∧ τ'.2.1 = τ.2.1 ∧ τ'.2.2.1 = τ.2.2.1 ∧ τ'.2.2.2.2 = τ.2.2.2.2
theorem tsp_trans {τ τ1 τ2 : tS} (h : tsp τ τ1) (g : tsp τ1 τ2) : tsp τ τ2 := ⟨g.1.trans h.1, g.2.1.trans h.2.1, g.2.2.1.trans h.2.2.1, g.2.2.2.trans h.2.2.2⟩
theorem cSt_p {X : tX} {ρ : tR} {τ τ' : tS} (h : cSt X ρ τ) (g : tsp τ τ') : cSt X ρ τ' := by
  unfold cSt at *
  rw [g.1, g.2.2.1]
  exact h
def wC (W : Nat → Nat) (m : Nat) (τ : tS) : Prop := ∀ j, j ≤ m → τ.2.2.2.1 j 12 = zL ((W j : Nat) : Int)
def wR (W : Nat → Nat) (m : Nat) (σ : kS) : Prop := ∀ j, j ≤ m → σ.2.2.2 17 j = zL ((W j : Nat) : Int)
theorem kf_minW (N : Nat) {a b : Nat} (ha : a ≤ 1000000000000000000) (hb : b ≤ 1000000000000000000) : kf_Jm_min1 N 1000000000000000000 (zL (a : Int) + zL (b : Int)) = some (zL ((min 1000000000000000000 (a + b) : Nat) : Int)) := by
  unfold kf_Jm_min1 kb_Jm_min1_0 kb_Jm_min1_11
  rw [zL_add, show (1000000000000000000 : Int64) = zL ((1000000000000000000 : Nat) : Int) from rfl, show ((a : Int) + (b : Int)) = ((a + b : Nat) : Int) by omega]
  by_cases h : a + b < 1000000000000000000
  · rw [if_pos (by rw [zg_gt (rg_nat (by omega)) (rg_nat (by omega))]; omega), Nat.min_eq_right (by omega)]
  · rw [if_neg (by rw [zg_gt (rg_nat (by omega)) (rg_nat (by omega))]; omega), Nat.min_eq_left (by omega)]
theorem c_pass (N : Nat) (ρ : tR) {τ : tS} {W : Nat → Nat} {m i j : Nat} (hw : wC W m τ) (hB : wB W) (hi : i ≤ m) (hj : j ≤ m) : ∃ τ', kf_Tp_passPaths N ρ τ (some i) (some j) = some ((), τ') ∧ tsp τ τ' ∧ wC (wup W j (min 1000000000000000000 (W j + W i))) m τ' := by
  refine ⟨tP τ j 12 (zL ((min 1000000000000000000 (W j + W i) : Nat) : Int)), ?_, ⟨rfl, rfl, rfl, rfl⟩, fun q hq => ?_⟩
  · unfold kf_Tp_passPaths kb_Tp_passPaths_0 kb_Tp_passPaths_23
    rw [tk_opt_s, Option.bind_some, hw j hj, hw i hi, kf_minW N (hB _) (hB _), Option.bind_some]
    rfl
  · rw [tP_4]
    unfold wup
    by_cases e : q = j
    · rw [if_pos ⟨e, rfl⟩, if_pos e]
    · rw [if_neg (fun w => e w.1), if_neg e]
      exact hw q hq
theorem c_nopass (N : Nat) (ρ : tR) (τ : tS) (v : Option Nat) : kf_Tp_passPaths N ρ τ v none = some ((), τ) := rfl
theorem c_wdn {X : tX} {ρ : tR} (ok : x_ok X) {N : Nat} {m b : Nat} (hm : m < x_n X) : ∀ d i fu τ W, d + b = i → i ≤ m → d < fu → cSt X ρ τ → wB W → wC W m τ → ∃ τ', kb_Tp_countWays_65 N ρ fu τ (nI b) (some b) (nI i) = some (zL ((wdn X d i W b : Nat) : Int), τ') ∧ tsp τ τ' := by
  have hn := ok.1
  intro d
  induction d with
  | zero =>
    intro i fu τ W hd hi hf hc hB hw
    obtain ⟨f', rfl⟩ : ∃ f', fu = f' + 1 := ⟨fu - 1, by omega⟩
    refine ⟨τ, ?_, rfl, rfl, rfl, rfl⟩
    rw [kb_Tp_countWays_65, if_pos (by rw [nI_leI (by omega) (by omega)]; omega), Option.bind_some, hw b (by omega)]
    rfl
  | succ d ih =>
    intro i fu τ W hd hi hf hc hB hw
    obtain ⟨f', rfl⟩ : ∃ f', fu = f' + 1 := ⟨fu - 1, by omega⟩
    have hi' : i < x_n X := by omega
    have e : ∃ τ1 τ2, kf_Tp_passPaths N ρ τ (some i) (t_R ρ i 4) = some ((), τ1) ∧ kf_Tp_passPaths N ρ τ1 (some i) (t_R ρ i 5) = some ((), τ2) ∧ tsp τ τ2 ∧ wC (wst X i W) m τ2 := by
      obtain ⟨_, _, z3, z4, z5, z6⟩ := hc.2.2 i hi'
      unfold wst
      by_cases h5 : x_o X i < 5
      · obtain ⟨g1, g2, _, _⟩ := x_lt ok hi' (by omega)
        obtain ⟨v1, v2, _⟩ := x_lt2 ok hi' h5
        obtain ⟨τ1, q1, q2, q3⟩ := c_pass N ρ (i := i) (j := x_a X i) hw hB hi (by omega)
        obtain ⟨τ2, p1, p2, p3⟩ := c_pass N ρ (i := i) (j := x_b X i) q3 (wB_up hB _ _ (Nat.min_le_left _ _)) hi (by omega)
        have wi : wup W (x_a X i) (min 1000000000000000000 (W (x_a X i) + W i)) i = W i := if_neg (by omega)
        rw [wi] at p3
        rw [if_pos h5, (z4 (by omega)).1, (z5 h5).1]
        exact ⟨τ1, τ2, q1, p1, tsp_trans q2 p2, p3⟩
      · rw [if_neg h5, (z6 (by omega)).1]
        by_cases h16 : x_o X i < 16
        · obtain ⟨g1, g2, _, _⟩ := x_lt ok hi' h16
          obtain ⟨τ1, q1, q2, q3⟩ := c_pass N ρ (i := i) (j := x_a X i) hw hB hi (by omega)
          rw [if_pos h16, (z4 h16).1]
          exact ⟨τ1, τ1, q1, rfl, q2, q3⟩
        · have := (ok.2 i hi').1
          rw [if_neg h16, z3 (by omega)]
          exact ⟨τ, τ, rfl, rfl, ⟨rfl, rfl, rfl, rfl⟩, hw⟩
    obtain ⟨τ1, τ2, e1, e2, e3, e4⟩ := e
    obtain ⟨τ', p1, p2⟩ := ih (i - 1) f' τ2 (wst X i W) (by omega) (by omega) (by omega) (cSt_p hc e3) (wB_st hB) e4
    refine ⟨τ', ?_, tsp_trans e3 p2⟩
    rw [kb_Tp_countWays_65, if_neg (by rw [nI_leI (by omega) (by omega)]; omega), hc.1, tn_nI hi' hn, Option.bind_some, Option.bind_some, Option.bind_some, e1, kk_some, Option.bind_some, Option.bind_some, Option.bind_some, e2, kk_some, nI_dn (by omega)]
    exact p1
theorem r_pass (N : Nat) {σ : kS} {W : Nat → Nat} {m j x : Nat} (hm : m < 50) (hw : wR W m σ) (hB : wB W) (hj : j ≤ m) (hx : x ≤ 1000000000000000000) : ∃ s, kf_PM_toWay N σ (nI j) (zL (x : Int)) = some ((), s) ∧ kfr [] [] [] [17] σ s ∧ wR (wup W j (min 1000000000000000000 (W j + x))) m s := by
  have hb := hB j
  have g : ∀ y : Int64, (kB σ 17 j y).2.2.2 17 j = y := fun y => by rw [kB_4, if_pos ⟨rfl, rfl⟩]
  unfold kf_PM_toWay kb_PM_toWay_0 kb_PM_toWay_32
  rw [mj_tabL_nI (by omega) (by omega), Option.bind_some, hw j hj, mj_gd_nI (by omega) (by omega), kk_letE, nI_clamp (by omega), mj_tabL_nI (by omega) (by omega), Option.bind_some, g, zL_add, show ((W j : Int) + (x : Int)) = ((W j + x : Nat) : Int) by omega, show (1000000000000000000 : Int64) = zL ((1000000000000000000 : Nat) : Int) from rfl]
  by_cases h : W j + x ≤ 1000000000000000000
  · refine ⟨_, if_pos (by rw [zg_le (rg_nat (by omega)) (rg_nat (by omega))]; omega), kfr_B (by decide), fun q hq => ?_⟩
    rw [kB_4]
    unfold wup
    by_cases e : q = j
    · rw [if_pos ⟨rfl, e⟩, if_pos e, Nat.min_eq_right h]
    · rw [if_neg (fun w => e w.2), if_neg e]
      exact hw q hq
  · refine ⟨kB (kB σ 17 j (zL ((W j + x : Nat) : Int))) 17 j (zL ((1000000000000000000 : Nat) : Int)), ?_, kfr_trans (kfr_B (by decide)) (kfr_B (by decide)), fun q hq => ?_⟩
    · rw [if_neg (by rw [zg_le (rg_nat (by omega)) (rg_nat (by omega))]; omega), mj_gd_nI (by omega) (by omega)]
      rfl
    · rw [kB_4]
      unfold wup
      by_cases e : q = j
      · rw [if_pos ⟨rfl, e⟩, if_pos e, Nat.min_eq_left (by omega)]
      · rw [if_neg (fun w => e w.2), if_neg e, kB_4, if_neg (fun w => e w.2)]
        exact hw q hq
abbrev fWy (σ s : kS) : Prop := kfr [] [] [] [17] σ s
theorem rSt_wy {X : tX} {σ s : kS} (h : fWy σ s) (g : rSt X σ) : rSt X s := rSt_fr h (by decide) (by decide) (by decide) (by decide) (by decide) (by decide) g
theorem r_wdn {X : tX} (ok : x_ok X) {N : Nat} {m b : Nat} (hm : m < x_n X) : ∀ d i fu s W, d + b = i → i ≤ m → d < fu → rSt X s → wB W → wR W m s → ∃ s', kb_PM_ways_52 N fu s (nI b) (nI i) = some (zL ((wdn X d i W b : Nat) : Int), s') ∧ fWy s s' := by
  have hn := ok.1
  intro d
  induction d with
  | zero =>
    intro i fu s W hd hi hf hs hB hw
    obtain ⟨f', rfl⟩ : ∃ f', fu = f' + 1 := ⟨fu - 1, by omega⟩
    refine ⟨s, ?_, kfr_refl _ _ _ _ _⟩
    rw [kb_PM_ways_52, if_pos (by rw [nI_leI (by omega) (by omega)]; omega), mj_tabL_nI (by omega) (by omega), Option.bind_some, hw b (by omega)]
    rfl
  | succ d ih =>
    intro i fu s W hd hi hf hs hB hw
    obtain ⟨f', rfl⟩ : ∃ f', fu = f' + 1 := ⟨fu - 1, by omega⟩
    have hi' : i < x_n X := by omega
    obtain ⟨z1, z2, z3, z4, z5⟩ := hs.2 i hi'
    have e : ∃ s2, (∀ f, kb_PM_ways_52 N (f + 1) s (nI b) (nI i) = kb_PM_ways_52 N f s2 (nI b) (nI (i - 1))) ∧ fWy s s2 ∧ wR (wst X i W) m s2 := by
      unfold wst
      by_cases h16 : x_o X i < 16
      · obtain ⟨g1, g2, _, _⟩ := x_lt ok hi' h16
        have e4 : s.2.2.1 4 i = nI (x_a X i) := by rw [z2]; exact if_neg (by omega)
        obtain ⟨s1, q1, q2, q3⟩ := r_pass N (j := x_a X i) (by omega) hw hB (by omega) (hB i)
        obtain ⟨y1, y2, y3, y4, y5⟩ := (rSt_wy q2 hs).2 i hi'
        have o1 : s1.2.2.1 3 i = nI (x_o X i) := by rw [y1]; exact if_neg (by omega)
        by_cases h5 : x_o X i < 5
        · obtain ⟨v1, v2, _⟩ := x_lt2 ok hi' h5
          have e5 : s1.2.2.1 5 i = nI (x_b X i) := by rw [y3]; exact if_neg (by omega)
          obtain ⟨s2, p1, p2, p3⟩ := r_pass N (j := x_b X i) (by omega) q3 (wB_up hB _ _ (Nat.min_le_left _ _)) (by omega) (hB i)
          have wi : s1.2.2.2 17 i = zL ((W i : Nat) : Int) := by
            rw [q3 i hi]
            unfold wup
            rw [if_neg (by omega)]
          refine ⟨s2, fun f => ?_, kfr_trans q2 p2, ?_⟩
          · rw [kb_PM_ways_52, if_neg (by rw [nI_leI (by omega) (by omega)]; omega), mj_tab_nI (by omega) (by omega), Option.bind_some, z1, if_neg (oI_no h16 (by omega)), mj_tab_nI (by omega) (by omega), Option.bind_some, mj_tabL_nI (by omega) (by omega), Option.bind_some, e4, hw i hi, q1, kk_some, mj_tab_nI (by omega) (by omega), Option.bind_some, o1, if_neg (by rw [show (5 : Int32) = nI 5 from rfl, nI_leI (by omega) (by omega)]; omega), mj_tab_nI (by omega) (by omega), Option.bind_some, mj_tabL_nI (by omega) (by omega), Option.bind_some, e5, wi, p1, kk_some]
            unfold kb_PM_ways_113
            rw [nI_dn (by omega)]
          · rw [if_pos h5]
            exact p3
        · refine ⟨s1, fun f => ?_, q2, ?_⟩
          · rw [kb_PM_ways_52, if_neg (by rw [nI_leI (by omega) (by omega)]; omega), mj_tab_nI (by omega) (by omega), Option.bind_some, z1, if_neg (oI_no h16 (by omega)), mj_tab_nI (by omega) (by omega), Option.bind_some, mj_tabL_nI (by omega) (by omega), Option.bind_some, e4, hw i hi, q1, kk_some, mj_tab_nI (by omega) (by omega), Option.bind_some, o1, if_pos (by rw [show (5 : Int32) = nI 5 from rfl, nI_leI (by omega) (by omega)]; omega)]
            unfold kb_PM_ways_113
            rw [nI_dn (by omega)]
          · rw [if_neg h5, if_pos h16]
            exact q3
      · have b16 := (ok.2 i hi').1
        refine ⟨s, fun f => ?_, kfr_refl _ _ _ _ _, ?_⟩
        · rw [kb_PM_ways_52, if_neg (by rw [nI_leI (by omega) (by omega)]; omega), mj_tab_nI (by omega) (by omega), Option.bind_some, z1, if_pos (show oI (x_o X i) (x_o X i) = -2 from if_pos (by omega))]
          unfold kb_PM_ways_113
          rw [nI_dn (by omega)]
        · rw [if_neg (by omega), if_neg h16]
          exact hw
    obtain ⟨s2, e1, e2, e3⟩ := e
    obtain ⟨s', p1, p2⟩ := ih (i - 1) f' s2 (wst X i W) (by omega) (by omega) (by omega) (rSt_wy e2 hs) (wB_st hB) e3
    exact ⟨s', (e1 f').trans p1, kfr_trans e2 p2⟩
theorem op_ways (N : Nat) (hN : 300 ≤ N) {X : tX} {ρ : tR} {τ : tS} {σ : kS} (h : R_Tp X ρ τ σ) (v b : Int32) : ∃ r τ' s, kf_Tp_countWays N ρ τ v b = some (r, τ') ∧ kf_PM_ways N σ v b = some (r, s) ∧ R_Tp X ρ τ' s ∧ fTp σ s := by
  have h0 := h
  obtain ⟨ok, V, fr, pm, rt, gV, xv, gr, hp, hc, hr⟩ := h
  have hn := ok.1
  unfold kf_Tp_countWays kb_Tp_countWays_0 kb_Tp_countWays_27 kf_PM_ways kb_PM_ways_0 kb_PM_ways_19
  rcases v_in v (n := x_n X) (by omega) with ⟨i, hi, rfl⟩ | hv
  · rw [cT_in hc.1 ok N hi, kk_some, rn_in hr.1 ok N hi, kk_some, if_neg (show ¬ (1 : Int32) = 0 by decide), r_by ok N hi, Option.bind_some]
    by_cases hb : 0 ≤ b.toInt ∧ b.toInt ≤ (i : Int)
    · obtain ⟨j, hj1, rfl⟩ := nI_ofR (v := b) (m := i) hb.1 hb.2
      have hj : j < x_n X := by omega
      rw [bI_t hb, if_neg (show ¬ (1 : Int32) = 0 by decide), cT_in hc.1 ok N hj, kk_some, tk_opt_s, tk_opt_s, if_pos (by rw [nI_leI (by omega) (by omega)]; omega)]
      have lc : ∀ d k fu τ1, d + k = i + 1 → d < fu → tsp τ τ1 → (∀ q, q < k → τ1.2.2.2.1 q 12 = zL 0) → ∃ τ', kb_Tp_countWays_34 N ρ fu τ1 (nI i) (nI j) (some i) (some j) (nI k) = some (zL ((wdn X (i - j) i (W0 i) j : Nat) : Int), τ') ∧ tsp τ τ' := by
        intro d
        induction d with
        | zero =>
          intro k fu τ1 hd hf h1 h2
          obtain ⟨f', rfl⟩ : ∃ f', fu = f' + 1 := ⟨fu - 1, by omega⟩
          have t1 : tsp τ (tP τ1 i 12 1) := tsp_trans h1 ⟨rfl, rfl, rfl, rfl⟩
          obtain ⟨τ', q1, q2⟩ := c_wdn (ρ := ρ) ok (N := N) (m := i) (b := j) hi (i - j) i N (tP τ1 i 12 1) (W0 i) (by omega) (Nat.le_refl _) (by omega) (cSt_p hc.1 t1) (wB_0 i) (fun q hq => by
            rw [tP_4]
            unfold W0
            by_cases e : q = i
            · rw [if_pos ⟨e, rfl⟩, if_pos e]
              rfl
            · rw [if_neg (fun w => e w.1), if_neg e]
              exact h2 q (by omega))
          refine ⟨τ', ?_, tsp_trans t1 q2⟩
          rw [kb_Tp_countWays_34, if_pos (by rw [nI_ltI (by omega) (by omega)]; omega), Option.bind_some, kk_letE]
          exact q1
        | succ d ih =>
          intro k fu τ1 hd hf h1 h2
          obtain ⟨f', rfl⟩ : ∃ f', fu = f' + 1 := ⟨fu - 1, by omega⟩
          obtain ⟨τ', q1, q2⟩ := ih (k + 1) f' (tP τ1 k 12 0) (by omega) (by omega) (tsp_trans h1 ⟨rfl, rfl, rfl, rfl⟩) (fun q hq => by
            rw [tP_4]
            by_cases e : q = k
            · rw [if_pos ⟨e, rfl⟩]
              rfl
            · rw [if_neg (fun w => e w.1)]
              exact h2 q (by omega))
          refine ⟨τ', ?_, q2⟩
          rw [kb_Tp_countWays_34, if_neg (by rw [nI_ltI (by omega) (by omega)]; omega), hc.1.1, tn_nI (by omega) hn, Option.bind_some, Option.bind_some, kk_letE, nI_1]
          exact q1
      have lr : ∀ d k fu s1, d + k = i + 1 → d < fu → fWy σ s1 → (∀ q, q < k → s1.2.2.2 17 q = zL 0) → ∃ s', kb_PM_ways_25 N fu s1 (nI i) (nI j) (nI k) = some (zL ((wdn X (i - j) i (W0 i) j : Nat) : Int), s') ∧ fWy σ s' := by
        intro d
        induction d with
        | zero =>
          intro k fu s1 hd hf h1 h2
          obtain ⟨f', rfl⟩ : ∃ f', fu = f' + 1 := ⟨fu - 1, by omega⟩
          have t1 : fWy σ (kB s1 17 i 1) := kfr_trans h1 (kfr_B (by decide))
          obtain ⟨s', q1, q2⟩ := r_wdn ok (N := N) (m := i) (b := j) hi (i - j) i N (kB s1 17 i 1) (W0 i) (by omega) (Nat.le_refl _) (by omega) (rSt_wy t1 hr.1) (wB_0 i) (fun q hq => by
            rw [kB_4]
            unfold W0
            by_cases e : q = i
            · rw [if_pos ⟨rfl, e⟩, if_pos e]
              rfl
            · rw [if_neg (fun w => e w.2), if_neg e]
              exact h2 q (by omega))
          refine ⟨s', ?_, kfr_trans t1 q2⟩
          rw [kb_PM_ways_25, if_pos (by rw [nI_ltI (by omega) (by omega)]; omega), mj_gd_nI (by omega) (by omega), kk_letE, nI_clamp (by omega)]
          exact q1
        | succ d ih =>
          intro k fu s1 hd hf h1 h2
          obtain ⟨f', rfl⟩ : ∃ f', fu = f' + 1 := ⟨fu - 1, by omega⟩
          obtain ⟨s', q1, q2⟩ := ih (k + 1) f' (kB s1 17 k 0) (by omega) (by omega) (kfr_trans h1 (kfr_B (by decide))) (fun q hq => by
            rw [kB_4]
            by_cases e : q = k
            · rw [if_pos ⟨rfl, e⟩]
              rfl
            · rw [if_neg (fun w => e w.2)]
              exact h2 q (by omega))
          refine ⟨s', ?_, q2⟩
          rw [kb_PM_ways_25, if_neg (by rw [nI_ltI (by omega) (by omega)]; omega), mj_gd_nI (by omega) (by omega), kk_letE, nI_clamp (by omega), nI_1]
          exact q1
      obtain ⟨τ', a1, a2⟩ := lc (i + 1) 0 N τ (by omega) (by omega) ⟨rfl, rfl, rfl, rfl⟩ (fun q hq => absurd hq (by omega))
      obtain ⟨s', b1, b2⟩ := lr (i + 1) 0 N σ (by omega) (by omega) (kfr_refl _ _ _ _ _) (fun q hq => absurd hq (by omega))
      refine ⟨_, τ', s', a1, b1, ⟨ok, V, fr, pm, rt, gV, xv, gr, hp, ⟨cSt_p hc.1 a2, hc.2.1, by rw [a2.1]; exact hc.2.2.1, fun q hq w c hc' => by rw [a2.2.2.2]; exact hc.2.2.2.1 q hq w c hc', fun q hq => by rw [a2.2.2.1]; exact hc.2.2.2.2.1 q hq, by rw [a2.2.1]; exact hc.2.2.2.2.2⟩, rTp_fr b2 (by decide) (by decide) (by decide) (by decide) (by decide) (by decide) (by decide) (by decide) (by decide) (by decide) (by decide) hr⟩, kfr_mono b2 (by decide) (by decide) (by decide) (by decide)⟩
    · rw [bI_f hb, if_pos (show (0 : Int32) = 0 from rfl)]
      refine ⟨_, _, _, ?_, rfl, h0, kfr_refl _ _ _ _ _⟩
      rcases v_in b (n := x_n X) (by omega) with ⟨j, hj, rfl⟩ | hb2
      · rw [nI_toInt (by omega)] at hb
        rw [cT_in hc.1 ok N hj, kk_some, tk_opt_s, tk_opt_s, if_neg (by rw [nI_leI (by omega) (by omega)]; omega)]
      · rw [cT_out hc.1 ok N hb2, kk_some, tk_opt_s, tk_opt_n]
  · rw [cT_out hc.1 ok N hv, kk_some, rn_out hr.1 ok N hv, kk_some, if_pos rfl]
    refine ⟨_, _, _, ?_, rfl, h0, kfr_refl _ _ _ _ _⟩
    rcases v_in b (n := x_n X) (by omega) with ⟨j, hj, rfl⟩ | hb2
    · rw [cT_in hc.1 ok N hj, kk_some, tk_opt_n]
    · rw [cT_out hc.1 ok N hb2, kk_some, tk_opt_n]
def pcn (pm : Nat → Bool) : Nat → Nat
  | 0 => 0
  | k + 1 => pcn pm k + if pm k = true then 1 else 0
theorem pcn_le (pm : Nat → Bool) : ∀ k, pcn pm k ≤ k
  | 0 => Nat.le_refl _
  | k + 1 => by
    have := pcn_le pm k
    unfold pcn
    split <;> omega
theorem op_cntp (N : Nat) (hN : 300 ≤ N) {X : tX} {ρ : tR} {τ : tS} {σ : kS} (h : R_Tp X ρ τ σ) : ∃ r, kf_Tp_countParameters N ρ τ = some (r, τ) ∧ kb_PM_count_78 N N σ 0 0 = some (r, σ) := by
  obtain ⟨ok, V, fr, pm, rt, gV, xv, gr, hp, hc, hr⟩ := h
  have hn := ok.1
  refine ⟨nI (pcn pm (x_n X)), ?_, ?_⟩
  · have lp : ∀ d k fu, d + k = x_n X → d < fu → kb_Tp_countParameters_4 N ρ fu τ (nI (pcn pm k)) (nI k) = some (nI (pcn pm (x_n X)), τ) := by
      intro d
      induction d with
      | zero =>
        intro k fu hd hf
        obtain ⟨f', rfl⟩ : ∃ f', fu = f' + 1 := ⟨fu - 1, by omega⟩
        have : k = x_n X := by omega
        subst this
        rw [kb_Tp_countParameters_4, hc.1.2.1, if_pos (Int32.le_refl _)]
      | succ d ih =>
        intro k fu hd hf
        obtain ⟨f', rfl⟩ : ∃ f', fu = f' + 1 := ⟨fu - 1, by omega⟩
        have g := ih (k + 1) f' (by omega) (by omega)
        rw [kb_Tp_countParameters_4, hc.1.2.1, if_neg (by rw [nI_leI (by omega) (by omega)]; omega), hc.1.1, tn_nI (by omega) hn, Option.bind_some, Option.bind_some, hc.2.2.2.2.1 k (by omega)]
        unfold kb_Tp_countParameters_27
        rw [show pcn pm (k + 1) = pcn pm k + if pm k = true then 1 else 0 from rfl] at g
        by_cases e : pm k = true
        · rw [if_pos e] at g
          rw [bI_t e, if_neg (by decide), nI_1, nI_1]
          exact g
        · rw [if_neg e] at g
          rw [bI_f e, if_pos rfl, nI_1]
          exact g
    exact lp (x_n X) 0 N (by omega) (by omega)
  · have lp : ∀ d k fu, d + k = x_n X → d < fu → kb_PM_count_78 N fu σ (nI (pcn pm k)) (nI k) = some (nI (pcn pm (x_n X)), σ) := by
      intro d
      induction d with
      | zero =>
        intro k fu hd hf
        obtain ⟨f', rfl⟩ : ∃ f', fu = f' + 1 := ⟨fu - 1, by omega⟩
        have : k = x_n X := by omega
        subst this
        rw [kb_PM_count_78, hr.1.1, if_pos (Int32.le_refl _)]
      | succ d ih =>
        intro k fu hd hf
        obtain ⟨f', rfl⟩ : ∃ f', fu = f' + 1 := ⟨fu - 1, by omega⟩
        have g := ih (k + 1) f' (by omega) (by omega)
        rw [kb_PM_count_78, hr.1.1, if_neg (by rw [nI_leI (by omega) (by omega)]; omega), mj_tab_nI (by omega) (by omega), Option.bind_some, hr.2.2.1 k (by omega)]
        unfold kb_PM_count_101
        rw [show pcn pm (k + 1) = pcn pm k + if pm k = true then 1 else 0 from rfl] at g
        by_cases e : pm k = true
        · rw [if_pos e] at g
          rw [bI_t e, if_neg (by decide), nI_1, nI_1]
          exact g
        · rw [if_neg e] at g
          rw [bI_f e, if_pos rfl, nI_1, show (0 : Int32) = nI 0 from rfl, nI_add]
          exact g
    exact lp (x_n X) 0 N (by omega) (by omega)
