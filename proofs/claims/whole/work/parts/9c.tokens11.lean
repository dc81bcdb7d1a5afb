/-! TOKENS, 11: the most frequent pair, the reference -/
def mgEnd (N : Nat) (σ : kS) (q : Nat × Nat) : Option (Int32 × kS) := kb_PM_merge_9 N 1 σ (nI q.1) (nI (q.2 / 86)) (nI (q.2 % 86)) (σ.1 31)
theorem pt_best {N : Nat} (hN : 300 ≤ N) {n k : Nat} {x a b : Nat → Nat} {σ : kS} (hP : ptV n k x a b σ) {τ : kS} (hT : tkT n x τ) : ∀ (d i f : Nat), d + i = n - 1 → d < f → kb_PM_merge_9 N f σ (nI (bq n x i).1) (nI ((bq n x i).2 / 86)) (nI ((bq n x i).2 % 86)) (nI i) = mgEnd N σ (bq n x (n - 1)) := by
  have hP0 := hP
  obtain ⟨hn, hk, p1, p2, p3, p4⟩ := hP
  have hx : ∀ i, i < n → x i < 86 := fun i hi => (hT.2.2 i hi).2
  intro d
  induction d with
  | zero =>
    intro i f hd hf
    obtain ⟨f', rfl⟩ : ∃ f', f = f' + 1 := ⟨f - 1, by omega⟩
    have hi : i = n - 1 := by omega
    subst hi
    have l1 : nI n ≤ nI (n - 1) + 1 := by rw [nI_1, nI_leI (by omega) (by omega)]; omega
    have l2 : nI n ≤ nI n + 1 := by rw [nI_1, nI_leI (by omega) (by omega)]; omega
    unfold mgEnd
    rw [kb_PM_merge_9, kb_PM_merge_9, p1, if_pos l1, if_pos l2]
  | succ d ih =>
    intro i f hd hf
    obtain ⟨f', rfl⟩ : ∃ f', f = f' + 1 := ⟨f - 1, by omega⟩
    have h0 : i + 1 < n := by omega
    obtain ⟨b1, b2, b3⟩ := bq_b hT i (by omega)
    have hC : Cx n x i ≤ n - 1 := cnt_le _ _
    have ih2 := ih (i + 1) f' (by omega) (by omega)
    have eq1 : bq n x (i + 1) = if (bq n x i).1 < Cx n x i ∨ ((bq n x i).1 = Cx n x i ∧ 2 ≤ Cx n x i ∧ pa x i < (bq n x i).2) then (Cx n x i, pa x i) else bq n x i := rfl
    have x1 := hx i (by omega)
    have x2 := hx (i + 1) h0
    have eo : kf_PM_often N σ (nI (x i)) (nI (x (i + 1))) = some (nI (Cx n x i), σ) := by
      have := pt_often (N := N) hP0 hx x1 x2 n 0 0 N (by omega) (by omega) (by omega) (by omega)
      rw [Nat.zero_add, oft_cnt (by omega) hx x1 x2] at this
      exact this
    have d1 : pa x i / 86 = x i := by unfold pa; omega
    have d2 : pa x i % 86 = x (i + 1) := by unfold pa; omega
    have take : ((bq n x i).1 < Cx n x i ∨ ((bq n x i).1 = Cx n x i ∧ 2 ≤ Cx n x i ∧ pa x i < (bq n x i).2)) → kb_PM_merge_9 N f' σ (nI (Cx n x i)) (nI (x i)) (nI (x (i + 1))) (nI (i + 1)) = mgEnd N σ (bq n x (n - 1)) := by
      intro q
      rw [eq1, if_pos q] at ih2
      have e := ih2
      rw [d1, d2] at e
      exact e
    have skip : ¬ ((bq n x i).1 < Cx n x i ∨ ((bq n x i).1 = Cx n x i ∧ 2 ≤ Cx n x i ∧ pa x i < (bq n x i).2)) → kb_PM_merge_9 N f' σ (nI (bq n x i).1) (nI ((bq n x i).2 / 86)) (nI ((bq n x i).2 % 86)) (nI (i + 1)) = mgEnd N σ (bq n x (n - 1)) := by
      intro q
      rw [eq1, if_neg q] at ih2
      exact ih2
    have fin : ∀ (s0 : Int32), (s0 = 0 ↔ ¬ pa x i < (bq n x i).2) → kb_PM_merge_82 N (kb_PM_merge_9 N f') σ (nI (bq n x i).1) (nI ((bq n x i).2 / 86)) (nI ((bq n x i).2 % 86)) (nI i) (nI (Cx n x i)) s0 = mgEnd N σ (bq n x (n - 1)) := by
      intro s0 hs
      unfold kb_PM_merge_82 kb_PM_merge_110 kb_PM_merge_131
      rw [nI_1, mj_tab_nI (by omega) (by omega), Option.bind_some, mj_tab_nI (by omega) (by omega), Option.bind_some, p3 i (by omega), p3 (i + 1) h0]
      by_cases h1 : Cx n x i < 2
      · rw [if_pos (by rw [show (2 : Int32) = nI 2 from rfl, nI_ltI (by omega) (by omega)]; exact h1)]
        exact skip (by omega)
      · rw [if_neg (by rw [show (2 : Int32) = nI 2 from rfl, nI_ltI (by omega) (by omega)]; exact h1)]
        by_cases h2 : Cx n x i < (bq n x i).1
        · rw [if_pos ((nI_ltI (by omega) (by omega)).mpr h2)]
          exact skip (by omega)
        · rw [if_neg (fun q => h2 ((nI_ltI (by omega) (by omega)).mp q))]
          by_cases h3 : Cx n x i = (bq n x i).1
          · rw [if_pos (by rw [h3])]
            by_cases h4 : pa x i < (bq n x i).2
            · rw [if_neg (fun q => hs.mp q h4)]
              exact take (Or.inr (by omega))
            · rw [if_pos (hs.mpr h4)]
              exact skip (by omega)
          · rw [if_neg (fun q => h3 ((nI_eq (by omega) (by omega)).mp q))]
            exact take (Or.inl (by omega))
    rw [kb_PM_merge_9, p1, nI_1, if_neg (by rw [nI_leI (by omega) (by omega)]; omega), mj_tab_nI (by omega) (by omega), Option.bind_some, mj_tab_nI (by omega) (by omega), Option.bind_some, p3 i (by omega), p3 (i + 1) h0, eo, kk_some]
    unfold kb_PM_merge_77 kb_PM_merge_81
    simp only [mj_tab_nI (f := σ.2.2.1 32) (n := 200) (show i < 200 by omega) (by omega), mj_tab_nI (f := σ.2.2.1 32) (n := 200) (show i + 1 < 200 by omega) (by omega), Option.bind_some, p3 i (show i < n by omega), p3 (i + 1) h0]
    have hp : pa x i = x i * 86 + x (i + 1) := rfl
    by_cases h1 : x i < (bq n x i).2 / 86
    · rw [if_pos ((nI_ltI (by omega) (by omega)).mpr h1)]
      exact fin 1 ⟨fun q => absurd q (by decide), fun q => absurd (show pa x i < (bq n x i).2 by omega) q⟩
    · rw [if_neg (fun q => h1 ((nI_ltI (by omega) (by omega)).mp q))]
      by_cases h2 : x i = (bq n x i).2 / 86
      · rw [if_pos (by rw [h2])]
        by_cases h3 : (bq n x i).2 % 86 ≤ x (i + 1)
        · rw [if_pos ((nI_leI (by omega) (by omega)).mpr h3)]
          exact fin 0 ⟨fun _ => by omega, fun _ => rfl⟩
        · rw [if_neg (fun q => h3 ((nI_leI (by omega) (by omega)).mp q))]
          exact fin 1 ⟨fun q => absurd q (by decide), fun q => absurd (show pa x i < (bq n x i).2 by omega) q⟩
      · rw [if_neg (fun q => h2 ((nI_eq (by omega) (by omega)).mp q))]
        exact fin 0 ⟨fun _ => by omega, fun _ => rfl⟩
