/-! TOKENS, 12: the call of merge -/
theorem tk_letters (N : Nat) {τ : kS} {c : Nat → Int32} {t k : Nat} (hk : k ≤ 60) (ht : t < 26 + k) (h : ∀ j, j < k → τ.2.2.1 3 j = c j) : kf_Tk_lettersOf N τ (nI t) = some (lt c t, τ) := by
  unfold kf_Tk_lettersOf kb_Tk_lettersOf_0 kb_Tk_lettersOf_19 lt
  by_cases h0 : t < 26
  · rw [if_neg (by rw [show (26 : Int32) = nI 26 from rfl, nI_leI (by omega) (by omega)]; omega), if_pos h0]
  · rw [if_pos (by rw [show (26 : Int32) = nI 26 from rfl, nI_leI (by omega) (by omega)]; omega), show nI t - 26 = nI (t - 26) from nI_sub (show 26 ≤ t by omega), mj_tab_nI (by omega) (by omega), Option.bind_some, h _ (by omega), if_neg h0]
theorem bq_in {n : Nat} {x : Nat → Nat} : ∀ i, i ≤ n - 1 → 2 ≤ (bq n x i).1 → ∃ q, q < i ∧ (bq n x i).2 = pa x q
  | 0, _, h => absurd h (by show ¬ 2 ≤ 1; omega)
  | i + 1, hi, h => by
    unfold bq at *
    split
    · exact ⟨i, by omega, rfl⟩
    · rename_i w
      rw [if_neg w] at h
      obtain ⟨q, h1, h2⟩ := bq_in (n := n) (x := x) i (by omega) h
      exact ⟨q, by omega, h2⟩
