/-! TOKENS, 9: the best pair -/
theorem tk_count {N : Nat} (hN : 300 ≤ N) {n : Nat} {x : Nat → Nat} {τ : kS} (hT : tkT n x τ) : ∃ τ2, kf_Tk_countPairs N τ = some ((), τ2) ∧ kfr [] [] [4] [] τ τ2 ∧ ∀ q, q + 1 < n → τ2.2.2.1 4 (pa x q) = nI (cnt (hit x (pa x q)) (n - 1)) := by
  have hn := hT.1
  obtain ⟨τ1, a1, a2, a3⟩ := tk_zero (N := N) n 0 N τ hT (by omega) (by omega) (by omega) (fun q hq => absurd hq (by omega))
  obtain ⟨τ2, b1, b2, b3⟩ := tk_cnt (N := N) (n - 1) 0 N τ1 (tkT_fr a2 hT) (by omega) (by omega) (fun q hq => by rw [a3 q hq]; rfl)
  refine ⟨τ2, ?_, kfr_trans a2 b2, b3⟩
  exact Eq.trans a1 b1
