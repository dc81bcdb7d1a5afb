/-! TOKENS, 8: the class's table of pairs -/
def tkT (n : Nat) (x : Nat → Nat) (τ : kS) : Prop := n ≤ 200 ∧ τ.1 5 = nI n ∧ ∀ i, i < n → τ.2.2.1 0 i = nI (x i) ∧ x i < 86
theorem tkT_fr {n : Nat} {x : Nat → Nat} {τ τ2 : kS} (h : kfr [] [] [4] [] τ τ2) (g : tkT n x τ) : tkT n x τ2 := by
  refine ⟨g.1, (h.1 5 (by decide)).trans g.2.1, fun i hi => ?_⟩
  rw [h.2.2.1 0 (by decide)]
  exact g.2.2 i hi
theorem pa_b {n : Nat} {x : Nat → Nat} {τ : kS} (g : tkT n x τ) {i : Nat} (hi : i + 1 < n) : pa x i < 7396 := by
  have h1 := (g.2.2 i (by omega)).2
  have h2 := (g.2.2 (i + 1) hi).2
  unfold pa
  omega
theorem tk_pairAt (N : Nat) {n : Nat} {x : Nat → Nat} {τ : kS} (g : tkT n x τ) {i : Nat} (hi : i + 1 < n) : kf_Tk_pairAt N τ (nI i) = some (nI (pa x i), τ) := by
  have hn := g.1
  unfold kf_Tk_pairAt kb_Tk_pairAt_0
  rw [nI_1, mj_tab_nI (by omega) (by omega), Option.bind_some, mj_tab_nI (by omega) (by omega), Option.bind_some, (g.2.2 i (by omega)).1, (g.2.2 (i + 1) hi).1, show (86 : Int32) = nI 86 from rfl, nI_mul, nI_add]
  rfl
theorem tk_zero {N : Nat} {n : Nat} {x : Nat → Nat} : ∀ (d i f : Nat) (τ : kS), tkT n x τ → n ≤ i + 1 + d → d < f → i ≤ 200 → (∀ q, q < i → q + 1 < n → τ.2.2.1 4 (pa x q) = 0) → ∃ τ2, kb_Tk_countPairs_2 N f τ (nI i) = kb_Tk_countPairs_33 N N τ2 0 0 ∧ kfr [] [] [4] [] τ τ2 ∧ ∀ q, q + 1 < n → τ2.2.2.1 4 (pa x q) = 0 := by
  intro d
  induction d with
  | zero =>
    intro i f τ hT hd hf hi hz
    obtain ⟨f', rfl⟩ : ∃ f', f = f' + 1 := ⟨f - 1, by omega⟩
    have hn := hT.1
    refine ⟨τ, ?_, kfr_refl _ _ _ _ _, fun q hq => hz q (by omega) hq⟩
    rw [kb_Tk_countPairs_2, hT.2.1, nI_1, if_pos (by rw [nI_leI (by omega) (by omega)]; omega)]
  | succ d ih =>
    intro i f τ hT hd hf hi hz
    obtain ⟨f', rfl⟩ : ∃ f', f = f' + 1 := ⟨f - 1, by omega⟩
    have hn := hT.1
    by_cases h0 : i + 1 < n
    · have hb := pa_b hT h0
      have fr : kfr [] [] [4] [] τ (kA τ 4 (pa x i) 0) := kfr_A (by decide)
      obtain ⟨τ2, r1, r2, r3⟩ := ih (i + 1) f' (kA τ 4 (pa x i) 0) (tkT_fr fr hT) (by omega) (by omega) (by omega) (fun q hq hq2 => by
        rw [kA_3]
        by_cases e : pa x q = pa x i
        · rw [if_pos ⟨rfl, e⟩]
        · rw [if_neg (fun w => e w.2)]
          exact hz q (by
            have : q ≠ i := fun w => e (by rw [w])
            omega) hq2)
      refine ⟨τ2, ?_, kfr_trans fr r2, r3⟩
      rw [kb_Tk_countPairs_2, hT.2.1, nI_1, if_neg (by rw [nI_leI (by omega) (by omega)]; omega), tk_pairAt N hT h0, kk_some, mj_gd_nI (by omega) (by omega), nI_clamp (by omega)]
      exact r1
    · refine ⟨τ, ?_, kfr_refl _ _ _ _ _, fun q hq => hz q (by omega) hq⟩
      rw [kb_Tk_countPairs_2, hT.2.1, nI_1, if_pos (by rw [nI_leI (by omega) (by omega)]; omega)]
def cbf (x : Nat → Nat) : Nat → Bool
  | 0 => false
  | i + 1 => !ov x i
theorem tk_cnt {N : Nat} {n : Nat} {x : Nat → Nat} : ∀ (d i f : Nat) (τ : kS), tkT n x τ → d + i = n - 1 → d < f → (∀ q, q + 1 < n → τ.2.2.1 4 (pa x q) = nI (cnt (hit x (pa x q)) i)) → ∃ τ2, kb_Tk_countPairs_33 N f τ (bb (cbf x i)) (nI i) = some ((), τ2) ∧ kfr [] [] [4] [] τ τ2 ∧ ∀ q, q + 1 < n → τ2.2.2.1 4 (pa x q) = nI (cnt (hit x (pa x q)) (n - 1)) := by
  intro d
  induction d with
  | zero =>
    intro i f τ hT hd hf hz
    obtain ⟨f', rfl⟩ : ∃ f', f = f' + 1 := ⟨f - 1, by omega⟩
    have hn := hT.1
    have hi : i = n - 1 := by omega
    subst hi
    refine ⟨τ, ?_, kfr_refl _ _ _ _ _, hz⟩
    rw [kb_Tk_countPairs_33, hT.2.1, nI_1, if_pos (by rw [nI_leI (by omega) (by omega)]; omega)]
  | succ d ih =>
    intro i f τ hT hd hf hz
    obtain ⟨f', rfl⟩ : ∃ f', f = f' + 1 := ⟨f - 1, by omega⟩
    have hn := hT.1
    have h0 : i + 1 < n := by omega
    have hb := pa_b hT h0
    have hc := cnt_le (hit x (pa x i)) i
    have e67 : kb_Tk_countPairs_33 N (f' + 1) τ (bb (cbf x i)) (nI i) = kb_Tk_countPairs_67 N (kb_Tk_countPairs_33 N f') τ (nI i) (bb (ov x i)) := by
      rw [kb_Tk_countPairs_33, hT.2.1, nI_1, if_neg (by rw [nI_leI (by omega) (by omega)]; omega)]
      unfold kb_Tk_countPairs_66
      cases i with
      | zero =>
        rw [if_pos (show bb (cbf x 0) = 0 from rfl)]
        rfl
      | succ j =>
        cases ho : ov x j with
        | true =>
          have e1 : ov x (j + 1) = false := by simp [ov, ho]
          have e2 : cbf x (j + 1) = false := by simp [cbf, ho]
          rw [e1, e2, if_pos (by decide)]
          rfl
        | false =>
          have e2 : cbf x (j + 1) = true := by simp [cbf, ho]
          have ej : nI (j + 1) - 1 = nI j := nI_pred j
          have hb2 := pa_b hT (i := j) (by omega)
          rw [e2, if_neg (by decide), tk_pairAt N hT h0, kk_some, ej, tk_pairAt N hT (by omega), kk_some]
          by_cases e : pa x (j + 1) = pa x j
          · have e1 : ov x (j + 1) = true := by simp [ov, ho, e]
            rw [if_pos (by rw [e]), e1]
            rfl
          · have e1 : ov x (j + 1) = false := by simp [ov, ho, e]
            rw [if_neg (fun q => e ((nI_eq (by omega) (by omega)).mp q)), e1]
            rfl
    rw [e67]
    unfold kb_Tk_countPairs_67 kb_Tk_countPairs_86 kb_Tk_countPairs_95
    rw [nI_1]
    cases ho : ov x i with
    | true =>
      have ec : cbf x (i + 1) = false := by simp [cbf, ho]
      have := ih (i + 1) f' τ hT (by omega) (by omega) (fun q hq => by
        rw [cnt_f (P := hit x (pa x q)) (by simp [hit, ho])]
        exact hz q hq)
      rw [ec] at this
      rw [if_neg (by decide), if_neg (by decide)]
      exact this
    | false =>
      have ec : cbf x (i + 1) = true := by simp [cbf, ho]
      have fr : kfr [] [] [4] [] τ (kA τ 4 (pa x i) (nI (cnt (hit x (pa x i)) i + 1))) := kfr_A (by decide)
      obtain ⟨τ2, r1, r2, r3⟩ := ih (i + 1) f' (kA τ 4 (pa x i) (nI (cnt (hit x (pa x i)) i + 1))) (tkT_fr fr hT) (by omega) (by omega) (fun q hq => by
        rw [kA_3]
        by_cases e : pa x q = pa x i
        · rw [if_pos ⟨rfl, e⟩, e, cnt_t (P := hit x (pa x i)) (by simp [hit, ho])]
        · rw [if_neg (fun w => e w.2), cnt_f (P := hit x (pa x q)) (hit_no (fun w => e w.symm))]
          exact hz q hq)
      rw [ec] at r1
      refine ⟨τ2, ?_, kfr_trans fr r2, r3⟩
      rw [if_pos (by decide), tk_pairAt N hT h0, kk_some, mj_tab_nI (by omega) (by omega), Option.bind_some, hz i h0, mj_gd_nI (by omega) (by omega), nI_clamp (by omega), nI_1]
      simp only [kk_let]
      rw [if_pos (by decide)]
      exact r1
