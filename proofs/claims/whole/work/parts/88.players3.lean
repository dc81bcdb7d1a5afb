/-! PLAYERS, 3: the call of share -/
theorem op_share {N : Nat} (hN : 300 ≤ N) {τ σ : kS} (h : R_Py τ σ) {n p : Nat} (hn : τ.1 1 = nI n) (hn8 : n ≤ 8) (hp : p < n) (v : Int32) (hv : 0 ≤ v.toInt ∧ v.toInt ≤ 1) : ∃ f s, fG f ∧ kf_Py_shareOf N τ (nI p) = some (en f, τ) ∧ kf_PM_share N σ (nI p) v = some (if v = 0 then zL (pP f) else zL (pQ f), s) ∧ R_Py τ s ∧ fPy σ s := by
  obtain ⟨n', g1, g2, g3, g4⟩ := h
  have e : n' = n := (nI_eq (by omega) (by omega)).mp (g2.symm.trans hn)
  subst e
  have fr : kfr [] [0, 1] [] [] σ (kPQ σ (fshare n' p (σ.2.2.1 27))) := kfr_PQ (by decide) (by decide)
  refine ⟨fshare n' p (σ.2.2.1 27), kPQ σ (fshare n' p (σ.2.2.1 27)), fG_fo _ _, py_share hN g1 hp (fun j hj => (g4 j hj).2) g2 (fun j hj => (g4 j hj).1), ?_, R_Py_fr fr (by decide) (by decide) ⟨n', g1, g2, g3, g4⟩, kfr_mono fr (by decide) (by decide) (by decide) (by decide)⟩
  have es := ps_share hN g1 hp (fun j hj => (g4 j hj).2) g3 (fun j hj => rfl) v
  unfold kf_PM_share kb_PM_share_0
  rw [g3, show nI n' - 1 = nI (n' - 1) from nI_sub (show 1 ≤ n' by omega), n2l (n := n' - 1) (by omega), show (0 : Int64) = zL 0 from rfl, show (1 : Int64) = zL 1 from rfl, pm_isIn N (nI p) rg_0 (rg_nat (by omega)), Option.bind_some, nI_toInt (by omega), if_neg (fun q => bI_0.mp q (by omega)), pm_isIn N v rg_0 rg_1, Option.bind_some, if_neg (fun q => bI_0.mp q hv)]
  exact es
theorem op_share_bad (N : Nat) {τ σ : kS} (h : R_Py τ σ) {n : Nat} (hn : τ.1 1 = nI n) (hn8 : n ≤ 8) (p v : Int32) (hb : ¬ ((0 ≤ p.toInt ∧ p.toInt < n) ∧ (0 ≤ v.toInt ∧ v.toInt ≤ 1))) : kf_PM_share N σ p v = some (-1099511627776, σ) := by
  obtain ⟨n', g1, g2, g3, g4⟩ := h
  have e : n' = n := (nI_eq (by omega) (by omega)).mp (g2.symm.trans hn)
  subst e
  have em : (nI n' - 1).toInt64 = zL ((n' : Int) - 1) := by
    by_cases h0 : n' = 0
    · subst h0
      rfl
    · rw [show nI n' - 1 = nI (n' - 1) from nI_sub (show 1 ≤ n' by omega), n2l (by omega)]
      congr 1
      omega
  unfold kf_PM_share kb_PM_share_0 kb_PM_share_26
  rw [g3, em, show (0 : Int64) = zL 0 from rfl, show (1 : Int64) = zL 1 from rfl, pm_isIn N p rg_0 ⟨by omega, by omega⟩, Option.bind_some]
  by_cases h1 : 0 ≤ p.toInt ∧ p.toInt ≤ (n' : Int) - 1
  · rw [if_neg (fun q => bI_0.mp q h1), pm_isIn N v rg_0 rg_1, Option.bind_some, if_pos (bI_0.mpr (fun q => hb ⟨by omega, q⟩))]
  · rw [if_pos (bI_0.mpr h1)]
theorem op_score_bad (N : Nat) (σ : kS) (k v : Int32) (hb : ¬ ((0 ≤ k.toInt ∧ k.toInt ≤ 3) ∧ (0 ≤ v.toInt ∧ v.toInt ≤ 1))) : kf_PM_score N σ k v = some (-1099511627776, σ) := by
  unfold kf_PM_score kb_PM_score_0 kb_PM_score_22
  rw [show (0 : Int64) = zL 0 from rfl, show (3 : Int64) = zL 3 from rfl, show (1 : Int64) = zL 1 from rfl, pm_isIn N k rg_0 ⟨by decide, by decide⟩, Option.bind_some]
  by_cases h1 : 0 ≤ k.toInt ∧ k.toInt ≤ 3
  · rw [if_neg (fun q => bI_0.mp q h1), pm_isIn N v rg_0 rg_1, Option.bind_some, if_pos (bI_0.mpr (fun q => hb ⟨h1, q⟩))]
  · rw [if_pos (bI_0.mpr h1)]
theorem op_cost_bad (N : Nat) (σ : kS) (k a v : Int32) (hb : ¬ ((0 ≤ k.toInt ∧ k.toInt ≤ 3) ∧ (0 ≤ v.toInt ∧ v.toInt ≤ 1))) : kf_PM_cost N σ k a v = some (-1099511627776, σ) := by
  unfold kf_PM_cost kb_PM_cost_0 kb_PM_cost_22
  rw [show (0 : Int64) = zL 0 from rfl, show (3 : Int64) = zL 3 from rfl, show (1 : Int64) = zL 1 from rfl, pm_isIn N k rg_0 ⟨by decide, by decide⟩, Option.bind_some]
  by_cases h1 : 0 ≤ k.toInt ∧ k.toInt ≤ 3
  · rw [if_neg (fun q => bI_0.mp q h1), pm_isIn N v rg_0 rg_1, Option.bind_some, if_pos (bI_0.mpr (fun q => hb ⟨h1, q⟩))]
  · rw [if_pos (bI_0.mpr h1)]
theorem op_cost2 {N : Nat} (hN : 100 ≤ N) {τ σ : kS} (h : R_Ta τ σ) {c : Nat} (hc : c < 4) (a v : Int32) (hv : 0 ≤ v.toInt ∧ v.toInt ≤ 1) : ∃ f τ2 s, fG f ∧ kf_Ta_costOf N τ (nI c) a = some (en f, τ2) ∧ kf_PM_cost N σ (nI c) a v = some (if v = 0 then zL (pP f) else zL (pQ f), s) ∧ R_Ta τ2 s ∧ fTa σ s := by
  obtain ⟨f, τ2, s, r, h1, h2, h3, h4, h5, h6, h7⟩ := op_cost hN h hc a
  refine ⟨f, τ2, s, h1, h2, ?_, h6, h7⟩
  unfold kf_PM_cost kb_PM_cost_0
  rw [show (0 : Int64) = zL 0 from rfl, show (3 : Int64) = zL 3 from rfl, show (1 : Int64) = zL 1 from rfl, pm_isIn N (nI c) rg_0 ⟨by decide, by decide⟩, Option.bind_some, nI_toInt (by omega), if_neg (fun q => bI_0.mp q (by omega)), pm_isIn N v rg_0 rg_1, Option.bind_some, if_neg (fun q => bI_0.mp q hv), h3, kk_some]
  unfold kf_PM_told kb_PM_told_0 kb_PM_told_15
  rw [h4, h5]
  split <;> rfl
