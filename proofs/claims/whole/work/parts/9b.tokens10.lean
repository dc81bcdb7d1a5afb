/-! TOKENS, 10: the most frequent pair, the class -/
def Cx (n : Nat) (x : Nat → Nat) (i : Nat) : Nat := cnt (hit x (pa x i)) (n - 1)
def bq (n : Nat) (x : Nat → Nat) : Nat → Nat × Nat
  | 0 => (1, 0)
  | i + 1 => if (bq n x i).1 < Cx n x i ∨ ((bq n x i).1 = Cx n x i ∧ 2 ≤ Cx n x i ∧ pa x i < (bq n x i).2) then (Cx n x i, pa x i) else bq n x i
theorem bq_b {n : Nat} {x : Nat → Nat} {τ : kS} (g : tkT n x τ) : ∀ i, i ≤ n - 1 → 1 ≤ (bq n x i).1 ∧ (bq n x i).1 ≤ 200 ∧ (bq n x i).2 < 7396
  | 0, _ => ⟨Nat.le_refl 1, by show 1 ≤ 200; omega, by show 0 < 7396; omega⟩
  | i + 1, h => by
    have ih := bq_b g i (by omega)
    have hn := g.1
    have hc : Cx n x i ≤ n - 1 := cnt_le _ _
    have hp := pa_b g (i := i) (by omega)
    unfold bq
    split
    · rename_i q
      exact ⟨by show 1 ≤ Cx n x i; omega, by show Cx n x i ≤ 200; omega, hp⟩
    · exact ih
def bI32 (q : Nat × Nat) : Int32 := if q.1 < 2 then -1 else nI q.2
theorem tk_best {N : Nat} {n : Nat} {x : Nat → Nat} {τ : kS} (hT : tkT n x τ) (hc : ∀ q, q + 1 < n → τ.2.2.1 4 (pa x q) = nI (Cx n x q)) : ∀ (d i f : Nat), d + i = n - 1 → d < f → kb_Tk_mostFrequentPair_6 N f τ (bI32 (bq n x i)) (nI (bq n x i).1) (nI i) = some (bI32 (bq n x (n - 1)), τ) := by
  have hn := hT.1
  intro d
  induction d with
  | zero =>
    intro i f hd hf
    obtain ⟨f', rfl⟩ : ∃ f', f = f' + 1 := ⟨f - 1, by omega⟩
    have hi : i = n - 1 := by omega
    subst hi
    rw [kb_Tk_mostFrequentPair_6, hT.2.1, nI_1, if_pos (by rw [nI_leI (by omega) (by omega)]; omega)]
  | succ d ih =>
    intro i f hd hf
    obtain ⟨f', rfl⟩ : ∃ f', f = f' + 1 := ⟨f - 1, by omega⟩
    have h0 : i + 1 < n := by omega
    have hb := pa_b hT h0
    obtain ⟨b1, b2, b3⟩ := bq_b hT i (by omega)
    have hC : Cx n x i ≤ n - 1 := cnt_le _ _
    have ih2 := ih (i + 1) f' (by omega) (by omega)
    have eq1 : bq n x (i + 1) = if (bq n x i).1 < Cx n x i ∨ ((bq n x i).1 = Cx n x i ∧ 2 ≤ Cx n x i ∧ pa x i < (bq n x i).2) then (Cx n x i, pa x i) else bq n x i := rfl
    rw [kb_Tk_mostFrequentPair_6, hT.2.1, nI_1, if_neg (by rw [nI_leI (by omega) (by omega)]; omega), tk_pairAt N hT h0, kk_some]
    unfold kb_Tk_mostFrequentPair_51 kb_Tk_mostFrequentPair_62
    simp only [mj_tab_nI (f := τ.2.2.1 4) hb (show 7396 < 2 ^ 31 by omega), Option.bind_some, hc i h0, nI_1]
    have take : ((bq n x i).1 < Cx n x i ∨ ((bq n x i).1 = Cx n x i ∧ 2 ≤ Cx n x i ∧ pa x i < (bq n x i).2)) → kb_Tk_mostFrequentPair_6 N f' τ (nI (pa x i)) (nI (Cx n x i)) (nI (i + 1)) = some (bI32 (bq n x (n - 1)), τ) := by
      intro q
      rw [eq1, if_pos q] at ih2
      have e : bI32 (Cx n x i, pa x i) = nI (pa x i) := if_neg (by show ¬ Cx n x i < 2; omega)
      rw [e] at ih2
      exact ih2
    have skip : ¬ ((bq n x i).1 < Cx n x i ∨ ((bq n x i).1 = Cx n x i ∧ 2 ≤ Cx n x i ∧ pa x i < (bq n x i).2)) → kb_Tk_mostFrequentPair_6 N f' τ (bI32 (bq n x i)) (nI (bq n x i).1) (nI (i + 1)) = some (bI32 (bq n x (n - 1)), τ) := by
      intro q
      rw [eq1, if_neg q] at ih2
      exact ih2
    by_cases h1 : (bq n x i).1 < Cx n x i
    · rw [if_pos ((nI_ltI (by omega) (by omega)).mpr h1)]
      exact take (Or.inl h1)
    · rw [if_neg (fun q => h1 ((nI_ltI (by omega) (by omega)).mp q))]
      by_cases h2 : Cx n x i = (bq n x i).1
      · rw [if_pos (by rw [h2])]
        by_cases h3 : (bq n x i).1 < 2
        · have e : bI32 (bq n x i) = -1 := if_pos h3
          have hle : bI32 (bq n x i) ≤ nI (pa x i) := by
            rw [e, Int32.le_iff_toInt_le, nI_toInt (by omega), show (-1 : Int32).toInt = -1 from by decide]
            omega
          rw [if_pos hle]
          exact skip (by omega)
        · have e : bI32 (bq n x i) = nI (bq n x i).2 := if_neg h3
          by_cases h4 : (bq n x i).2 ≤ pa x i
          · rw [if_pos (by rw [e, nI_leI (by omega) (by omega)]; exact h4)]
            exact skip (by omega)
          · rw [if_neg (by rw [e, nI_leI (by omega) (by omega)]; exact h4)]
            exact take (Or.inr (by omega))
      · rw [if_neg (fun q => h2 ((nI_eq (by omega) (by omega)).mp q))]
        exact skip (by omega)
