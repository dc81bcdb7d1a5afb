/-! PLAYERS, 1: games and worths -/
def R_Py (τ σ : kS) : Prop := ∃ n : Nat, n ≤ 8 ∧ τ.1 1 = nI n ∧ σ.1 26 = nI n ∧ ∀ j, j < 256 → τ.2.2.1 0 j = σ.2.2.1 27 j ∧ -10000 ≤ (σ.2.2.1 27 j).toInt ∧ (σ.2.2.1 27 j).toInt ≤ 10000
theorem R_Py_fr {τ σ s : kS} {I L A B : List Nat} (h : kfr I L A B σ s) (hI : 26 ∉ I) (hA : 27 ∉ A) (g : R_Py τ σ) : R_Py τ s := by
  obtain ⟨n, g1, g2, g3, g4⟩ := g
  refine ⟨n, g1, g2, (h.1 26 hI).trans g3, fun j hj => ?_⟩
  rw [h.2.2.1 27 hA]
  exact g4 j hj
abbrev fPy (σ s : kS) : Prop := kfr [26] [0, 1] [27] [] σ s
theorem py_fill (N : Nat) : ∀ (d j fu : Nat) (τ : kS), d + j = 256 → d < fu → (∀ i, i < j → τ.2.2.1 0 i = 0) → ∃ τ2, kb_Ja_fill0_Py0_5 N fu τ 0 (nI j) (nI 256) = some ((), τ2) ∧ (∀ i, i < 256 → τ2.2.2.1 0 i = 0) ∧ kfr [] [] [0] [] τ τ2 := by
  intro d
  induction d with
  | zero =>
    intro j fu τ hd hf h
    obtain ⟨f', rfl⟩ : ∃ f', fu = f' + 1 := ⟨fu - 1, by omega⟩
    have hj : j = 256 := by omega
    subst hj
    exact ⟨τ, by rw [kb_Ja_fill0_Py0_5, if_pos (Int32.le_refl _)], h, kfr_refl _ _ _ _ _⟩
  | succ d ih =>
    intro j fu τ hd hf h
    obtain ⟨f', rfl⟩ : ∃ f', fu = f' + 1 := ⟨fu - 1, by omega⟩
    obtain ⟨τ2, g1, g2, g3⟩ := ih (j + 1) f' (kA τ 0 j 0) (by omega) (by omega) (fun i hi => by
      rw [kA_3]
      by_cases e : i = j
      · rw [if_pos ⟨rfl, e⟩]
      · rw [if_neg (fun q => e q.2)]
        exact h i (by omega))
    refine ⟨τ2, ?_, g2, kfr_trans (kfr_A (by decide)) g3⟩
    rw [kb_Ja_fill0_Py0_5, if_neg (by rw [nI_leI (by omega) (by omega)]; omega), mj_gd_nI (by omega) (by omega), nI_clamp (by omega), nI_1]
    exact g1
theorem pm_fill (N : Nat) : ∀ (d j fu : Nat) (σ : kS), d + j = 256 → d < fu → (∀ i, i < j → σ.2.2.1 27 i = 0) → ∃ s, kb_PM_game_21 N fu σ (nI j) = some (0, s) ∧ (∀ i, i < 256 → s.2.2.1 27 i = 0) ∧ kfr [] [] [27] [] σ s := by
  intro d
  induction d with
  | zero =>
    intro j fu σ hd hf h
    obtain ⟨f', rfl⟩ : ∃ f', fu = f' + 1 := ⟨fu - 1, by omega⟩
    have hj : j = 256 := by omega
    subst hj
    exact ⟨σ, by rw [kb_PM_game_21, if_pos (by decide)], h, kfr_refl _ _ _ _ _⟩
  | succ d ih =>
    intro j fu σ hd hf h
    obtain ⟨f', rfl⟩ : ∃ f', fu = f' + 1 := ⟨fu - 1, by omega⟩
    obtain ⟨s, g1, g2, g3⟩ := ih (j + 1) f' (kA σ 27 j 0) (by omega) (by omega) (fun i hi => by
      rw [kA_3]
      by_cases e : i = j
      · rw [if_pos ⟨rfl, e⟩]
      · rw [if_neg (fun q => e q.2)]
        exact h i (by omega))
    refine ⟨s, ?_, g2, kfr_trans (kfr_A (by decide)) g3⟩
    rw [kb_PM_game_21, if_neg (by rw [show (256 : Int32) = nI 256 from rfl, nI_leI (by omega) (by omega)]; omega), mj_gd_nI (by omega) (by omega), nI_clamp (by omega), nI_1]
    exact g1
theorem op_game {N : Nat} (hN : 300 ≤ N) {τ σ : kS} (h : R_Py τ σ) (v : Int32) : ∃ r τ2 s, kf_Py_begin N τ v = some (r, τ2) ∧ kf_PM_game N σ v = some (r, s) ∧ R_Py τ2 s ∧ fPy σ s := by
  have e0 : (0 : Int32).toInt = 0 := by decide
  have e8 : (8 : Int32).toInt = 8 := by decide
  have k1 : v < 0 ↔ v.toInt < 0 := by rw [i32lt, e0]
  have k2 : v ≤ 8 ↔ v.toInt ≤ 8 := by rw [Int32.le_iff_toInt_le, e8]
  unfold kf_Py_begin kb_Py_begin_0 kb_Py_begin_10 kf_PM_game kb_PM_game_0
  rw [show (0 : Int64) = zL 0 from rfl, show (8 : Int64) = zL 8 from rfl, pm_isIn N v rg_0 ⟨by decide, by decide⟩, Option.bind_some]
  by_cases hv : 0 ≤ v.toInt ∧ v.toInt ≤ 8
  case neg =>
    rw [if_pos (c := bI _ = 0) (bI_0.mpr hv)]
    by_cases h1 : v.toInt < 0
    · rw [if_pos (k1.mpr h1)]
      exact ⟨_, _, _, rfl, rfl, h, kfr_refl _ _ _ _ _⟩
    · rw [if_neg (fun q => h1 (k1.mp q)), if_neg (fun q => by have := k2.mp q; omega)]
      exact ⟨_, _, _, rfl, rfl, h, kfr_refl _ _ _ _ _⟩
  rw [if_neg (c := bI _ = 0) (fun q => bI_0.mp q hv), if_neg (fun q => by have := k1.mp q; omega), if_pos (k2.mpr hv.2)]
  obtain ⟨n, hn, rfl⟩ := nI_ofR (m := 8) hv.1 hv.2
  obtain ⟨τ2, a1, a2, a3⟩ := py_fill N 256 0 N (kI τ 1 (nI n)) (by omega) (by omega) (fun i hi => absurd hi (by omega))
  obtain ⟨s, b1, b2, b3⟩ := pm_fill N 256 0 N (kI σ 26 (nI n)) (by omega) (by omega) (fun i hi => absurd hi (by omega))
  refine ⟨0, τ2, s, ?_, b1, ⟨n, hn, (a3.1 1 (by decide)).trans rfl, (b3.1 26 (by decide)).trans rfl, fun j hj => ?_⟩, kfr_trans (kfr_I (by decide)) (kfr_mono b3 (by decide) (by decide) (by decide) (by decide))⟩
  · have a1' : kf_Ja_fill0_Py0 N (kI τ 1 (nI n)) 0 = some ((), τ2) := a1
    simp only [kk_let]
    rw [a1', kk_some]
  · rw [a2 j hj, b2 j hj]
    exact ⟨rfl, by decide, by decide⟩
theorem sh_tab : ∀ n, n ≤ 8 → (1 : Int32) <<< (nI n &&& 31) = nI (2 ^ n) := by decide +kernel
theorem op_worth {N : Nat} {τ σ : kS} (h : R_Py τ σ) (a v : Int32) : ∃ r τ2 s, kf_Py_setWorth N τ a v = some (r, τ2) ∧ kf_PM_worth N σ a v = some (r, s) ∧ R_Py τ2 s ∧ fPy σ s := by
  have keep := h
  obtain ⟨n, hn, g1, g2, g3⟩ := h
  have hp : 2 ^ n ≤ 2 ^ 8 := Nat.pow_le_pow_right (by decide) hn
  have hp1 : 1 ≤ 2 ^ n := Nat.one_le_two_pow
  have e1 : (1 : Int32).toInt = 1 := by decide
  have em : (-10000 : Int32).toInt = -10000 := by decide
  have ep : (10000 : Int32).toInt = 10000 := by decide
  have k1 : a < 1 ↔ a.toInt < 1 := by rw [i32lt, e1]
  have k2 : nI (2 ^ n) ≤ a ↔ ((2 ^ n : Nat) : Int) ≤ a.toInt := by rw [Int32.le_iff_toInt_le, nI_toInt (by omega)]
  have k3 : v < -10000 ↔ v.toInt < -10000 := by rw [i32lt, em]
  have k4 : v ≤ 10000 ↔ v.toInt ≤ 10000 := by rw [Int32.le_iff_toInt_le, ep]
  unfold kf_Py_setWorth kb_Py_setWorth_0 kb_Py_setWorth_29 kf_PM_worth kb_PM_worth_0 kb_PM_worth_32
  rw [g1, g2, sh_tab n hn, show nI (2 ^ n) - 1 = nI (2 ^ n - 1) from nI_sub hp1, n2l (by omega), show (1 : Int64) = zL 1 from rfl, show (-10000 : Int64) = zL (-10000) from rfl, show (10000 : Int64) = zL 10000 from rfl, pm_isIn N a rg_1 (rg_nat (by omega)), Option.bind_some, pm_isIn N v ⟨by decide, by decide⟩ ⟨by decide, by decide⟩, Option.bind_some]
  have bads : ∃ r τ2 s, some ((-1 : Int32), τ) = some (r, τ2) ∧ some ((-1 : Int32), σ) = some (r, s) ∧ R_Py τ2 s ∧ fPy σ s := ⟨-1, τ, σ, rfl, rfl, keep, kfr_refl _ _ _ _ _⟩
  by_cases ha : 1 ≤ a.toInt ∧ a.toInt ≤ ((2 ^ n - 1 : Nat) : Int)
  case neg =>
    rw [if_pos (c := bI (1 ≤ a.toInt ∧ a.toInt ≤ ((2 ^ n - 1 : Nat) : Int)) = 0) (bI_0.mpr ha)]
    by_cases h1 : a.toInt < 1
    · rw [if_pos (k1.mpr h1)]
      exact bads
    · rw [if_neg (fun q => h1 (k1.mp q)), if_pos (k2.mpr (by omega))]
      exact bads
  rw [if_neg (c := bI (1 ≤ a.toInt ∧ a.toInt ≤ ((2 ^ n - 1 : Nat) : Int)) = 0) (fun q => bI_0.mp q ha), if_neg (fun q => by have := k1.mp q; omega), if_neg (fun q => by have := k2.mp q; omega)]
  by_cases hv : -10000 ≤ v.toInt ∧ v.toInt ≤ 10000
  case neg =>
    rw [if_pos (c := bI (-10000 ≤ v.toInt ∧ v.toInt ≤ 10000) = 0) (bI_0.mpr hv)]
    by_cases h1 : v.toInt < -10000
    · rw [if_pos (k3.mpr h1)]
      exact bads
    · rw [if_neg (fun q => h1 (k3.mp q)), if_neg (fun q => by have := k4.mp q; omega)]
      exact bads
  rw [if_neg (c := bI (-10000 ≤ v.toInt ∧ v.toInt ≤ 10000) = 0) (fun q => bI_0.mp q hv), if_neg (fun q => by have := k3.mp q; omega), if_pos (k4.mpr hv.2)]
  obtain ⟨j, hj, rfl⟩ := nI_ofR (v := a) (m := 255) (by omega) (by omega)
  rw [mj_tab_nI (by omega) (by omega), mj_tab_nI (by omega) (by omega), Option.bind_some, Option.bind_some, mj_gd_nI (by omega) (by omega), mj_gd_nI (by omega) (by omega), nI_clamp (by omega), (g3 j (by omega)).1]
  refine ⟨_, _, _, rfl, rfl, ⟨n, hn, g1, g2, fun i hi => ?_⟩, kfr_A (by decide)⟩
  rw [kA_3, kA_3]
  by_cases e : i = j
  · rw [if_pos ⟨rfl, e⟩, if_pos ⟨rfl, e⟩]
    exact ⟨rfl, hv⟩
  · rw [if_neg (fun q => e q.2), if_neg (fun q => e q.2)]
    exact g3 i hi
