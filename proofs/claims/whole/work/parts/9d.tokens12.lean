/-! TOKENS, 12: the call of merge -/
theorem tk_letters (N : Nat) {τ : kS} {c : Nat → Int32} {t k : Nat} (hk : k ≤ 60) (ht : t < 26 + k) (h : ∀ j, j < k → τ.2.2.1 3 j = c j) : kf_Tk_lettersOf N τ (nI t) = some (lt c t, τ) := by
  unfold kf_Tk_lettersOf kb_Tk_lettersOf_0 kb_Tk_lettersOf_19 lt
  by_cases h0 : t < 26
  · rw [if_neg (by rw [show (26 : Int32) = nI 26 from rfl, nI_leI (by omega) (by omega)]; omega), if_pos h0]
  · rw [if_pos (by rw [show (26 : Int32) = nI 26 from rfl, nI_leI (by omega) (by omega)]; omega), show nI t - 26 = nI (t - 26) from nI_sub (show 26 ≤ t by omega), mj_tab_nI (by omega) (by omega), Option.bind_some, h _ (by omega), if_neg h0]
theorem bq_in {n : Nat} {x : Nat → Nat} : ∀ i, i ≤ n - 1 → 2 ≤ (bq n x i).1 → ∃ q, q < i ∧ (bq n x i).2 = pa x q
  | 0, _, h => absurd h (by show ¬ 2 ≤ 1; omega)
  | i + 1, hi, h => by
    unfold bq at *
    split
    · exact ⟨i, by omega, rfl⟩
    · rename_i w
      rw [if_neg w] at h
      obtain ⟨q, h1, h2⟩ := bq_in (n := n) (x := x) i (by omega) h
      exact ⟨q, by omega, h2⟩
theorem nI_d86 : ∀ p, p < 7396 → nI p / 86 = nI (p / 86) ∧ nI p - nI p / 86 * 86 = nI (p % 86) := by
  intro p hp
  have e : nI p / 86 = nI (p / 86) := by
    apply Int32.toInt_inj.mp
    rw [Int32.toInt_div_of_ne_right _ _ (by decide), nI_toInt (by omega), nI_toInt (by omega), show (86 : Int32).toInt = 86 from by decide]
    exact tdiv_nat p 86
  refine ⟨e, ?_⟩
  rw [e, show (86 : Int32) = nI 86 from rfl, nI_mul, nI_sub (by omega)]
  congr 1
  omega
theorem op_merge {N : Nat} (hN : 300 ≤ N) {τ σ : kS} (h : R_Tk τ σ) : ∃ r τ2 s, kf_Tk_learnMerge N τ = some (r, τ2) ∧ kf_PM_merge N σ = some (r, s) ∧ R_Tk τ2 s ∧ fTk σ s := by
  obtain ⟨n, k, x, a, b, c, g1, hP, hG⟩ := h
  obtain ⟨hn, hk, h5, h6, hx, hab⟩ := id g1
  obtain ⟨_, _, p1, p2, p3, p4⟩ := id hP
  have hT : tkT n x τ := ⟨hn, h5, fun i hi => ⟨hx i hi, by have := hG.1 i hi; omega⟩⟩
  obtain ⟨τ1, c1, c2, c3⟩ := tk_count hN hT
  have hT1 := tkT_fr c2 hT
  have e6 : τ1.1 6 = nI k := (c2.1 6 (by decide)).trans h6
  have cb : kf_Tk_mostFrequentPair N τ1 = some (bI32 (bq n x (n - 1)), τ1) := tk_best (N := N) hT1 c3 (n - 1) 0 N (by omega) (by omega)
  have e0 : kf_PM_merge N σ = kb_PM_merge_9 N N σ (nI (bq n x 0).1) (nI ((bq n x 0).2 / 86)) (nI ((bq n x 0).2 % 86)) (nI 0) := by
    have u1 : nI ((bq n x 0).2 / 86) = 0 := by show nI (0 / 86) = 0; rfl
    have u2 : nI ((bq n x 0).2 % 86) = 0 := by show nI (0 % 86) = 0; rfl
    rw [u1, u2]
    rfl
  have pb : kf_PM_merge N σ = mgEnd N σ (bq n x (n - 1)) := e0.trans (pt_best hN hP hT (n - 1) 0 N (by omega) (by omega))
  obtain ⟨b1, b2, b3⟩ := bq_b hT (n - 1) (Nat.le_refl _)
  have R1 : R_Tk τ1 σ := ⟨n, k, x, a, b, c, ⟨hn, hk, hT1.2.1, e6, fun i hi => (hT1.2.2 i hi).1, fun j hj => by
    rw [c2.2.2.1 1 (by decide), c2.2.2.1 2 (by decide), c2.2.2.1 3 (by decide)]
    exact hab j hj⟩, hP, hG⟩
  have l2 : nI n ≤ nI n + 1 := by rw [nI_1, nI_leI (by omega) (by omega)]; omega
  unfold mgEnd at pb
  rw [kb_PM_merge_9, p1, if_pos l2] at pb
  rw [pb]
  unfold kf_Tk_learnMerge kb_Tk_learnMerge_0
  rw [c1, kk_some, cb, kk_some]
  by_cases h0 : (bq n x (n - 1)).1 < 2
  · have e : bI32 (bq n x (n - 1)) = -1 := if_pos h0
    have z1 : ¬ (0 : Int32) ≤ -1 := by decide
    have z2 : ¬ (2 : Int32) ≤ nI (bq n x (n - 1)).1 := by rw [show (2 : Int32) = nI 2 from rfl, nI_leI (by omega) (by omega)]; omega
    rw [e, if_neg z1, if_neg z2]
    exact ⟨_, _, _, rfl, rfl, R1, kfr_refl _ _ _ _ _⟩
  have e : bI32 (bq n x (n - 1)) = nI (bq n x (n - 1)).2 := if_neg h0
  have z1 : (0 : Int32) ≤ nI (bq n x (n - 1)).2 := nI_pos' (by omega)
  have z2 : (2 : Int32) ≤ nI (bq n x (n - 1)).1 := by rw [show (2 : Int32) = nI 2 from rfl, nI_leI (by omega) (by omega)]; omega
  rw [e, if_pos z1, if_pos z2, e6, p2]
  by_cases hf : k < 60
  case neg =>
    have : k = 60 := by omega
    subst this
    have y1 : ¬ nI 60 < 60 := by decide
    have y2 : nI 60 = 60 := rfl
    rw [if_neg y1, if_pos y2]
    exact ⟨_, _, _, rfl, rfl, R1, kfr_refl _ _ _ _ _⟩
  have y1 : nI k < 60 := by rw [show (60 : Int32) = nI 60 from rfl, nI_ltI (by omega) (by omega)]; omega
  have y2 : ¬ nI k = 60 := by rw [show (60 : Int32) = nI 60 from rfl, nI_eq (by omega) (by omega)]; omega
  obtain ⟨q, hq, eq⟩ := bq_in (n := n) (x := x) (n - 1) (Nat.le_refl _) (by omega)
  have x1 := hG.1 q (by omega)
  have x2 := hG.1 (q + 1) (by omega)
  obtain ⟨d1, d2⟩ := nI_d86 (bq n x (n - 1)).2 b3
  have A1 : (bq n x (n - 1)).2 / 86 = x q := by rw [eq]; unfold pa; omega
  have A2 : (bq n x (n - 1)).2 % 86 = x (q + 1) := by rw [eq]; unfold pa; omega
  rw [d2, d1, A1, A2, if_pos y1, if_neg y2]
  obtain ⟨B1, hB1⟩ : ∃ B1, B1 = kA (kA τ1 1 k (nI (x q))) 2 k (nI (x (q + 1))) := ⟨_, rfl⟩
  have B3 : ∀ j, j < k → B1.2.2.1 3 j = c j := fun j hj => by
    rw [hB1, kA_ne _ _ _ _ (by decide), kA_ne _ _ _ _ (by decide), c2.2.2.1 3 (by decide)]
    exact (hab j hj).2.2
  have B0 : B1.1 6 = nI k := by rw [hB1]; exact e6
  have Ba : B1.2.2.1 1 k = nI (x q) := by rw [hB1, kA_ne _ _ _ _ (by decide), kA_3, if_pos ⟨rfl, rfl⟩]
  have Bb : B1.2.2.1 2 k = nI (x (q + 1)) := by rw [hB1, kA_3, if_pos ⟨rfl, rfl⟩]
  have L1 := tk_letters N (τ := B1) hk x1 B3
  have L2 := tk_letters N (τ := B1) hk x2 B3
  obtain ⟨τ2, s, n2, x3, r1, r2, r3, r4, r5, r6, r7, r8⟩ := tk_join (N := N) (n := n) (A := x q) (B := x (q + 1)) (T := 26 + k) (M := 27 + k) (g := k) hn (by omega) (by omega) (by omega) (by omega) hf rfl n 0 0 N N (kA B1 3 k (lt c (x q) + lt c (x (q + 1)))) (kA (kA σ 34 k (nI (x q))) 35 k (nI (x (q + 1)))) x (by omega) (by omega) (by omega) (by omega)
    (by rw [kA_1, hB1]; exact hT1.2.1) p1 (by rw [kA_ne _ _ _ _ (by decide)]; exact Ba) (by rw [kA_ne _ _ _ _ (by decide)]; exact Bb)
    (fun i hi => ⟨by rw [kA_ne _ _ _ _ (by decide), hB1, kA_ne _ _ _ _ (by decide), kA_ne _ _ _ _ (by decide)]; exact (hT1.2.2 i hi).1, by rw [kA_ne _ _ _ _ (by decide), kA_ne _ _ _ _ (by decide)]; exact p3 i hi, by have := hG.1 i hi; omega⟩)
  have r1' : kf_Tk_doMerge N (kA B1 3 k (lt c (x q) + lt c (x (q + 1)))) (nI k) = some ((), τ2) := r1
  have r2' : kf_PM_joins N (kA (kA σ 34 k (nI (x q))) 35 k (nI (x (q + 1)))) (nI (x q)) (nI (x (q + 1))) (nI (26 + k)) = some ((), s) := r2
  have t6 : τ2.1 6 = nI k := (r7.1 6 (by decide)).trans B0
  have s33 : s.1 33 = nI k := (r8.1 33 (by decide)).trans p2
  have e26 : (26 : Int32) + nI k = nI (26 + k) := nI_add 26 k
  simp only [kk_let, kA_1, e6, p2]
  rw [mj_gd_nI hf (by omega), mj_gd_nI hf (by omega), mj_gd_nI hf (by omega), mj_gd_nI hf (by omega), nI_clamp (by omega), ← hB1, mj_tab_nI hf (by omega), Option.bind_some, Ba, L1, kk_some]
  rw [B0, mj_tab_nI hf (by omega), Option.bind_some, Bb, L2, kk_some, mj_gd_nI hf (by omega), B0, r1', kk_some, e26, r2', kk_some, t6, s33, kI_1, if_pos rfl, nI_1]
  have an : (26 : Int32) + nI (k + 1) - 1 = 26 + nI k := by
    rw [show (26 : Int32) + nI (k + 1) = nI (26 + (k + 1)) from nI_add 26 (k + 1), show nI (26 + (k + 1)) - 1 = nI (26 + (k + 1) - 1) from nI_sub (show 1 ≤ 26 + (k + 1) by omega), e26]
    congr 1
  rw [an]
  have lc : ∀ (y : Int32) (t : Nat), t < 26 + k → lt (fun j => if j = k then y else c j) t = lt c t := by
    intro y t ht
    unfold lt
    by_cases h26 : t < 26
    · rw [if_pos h26, if_pos h26]
    · rw [if_neg h26, if_neg h26]
      exact if_neg (by omega)
  refine ⟨_, _, _, rfl, rfl, ⟨n2, k + 1, x3, fun j => if j = k then x q else a j, fun j => if j = k then x (q + 1) else b j, fun j => if j = k then lt c (x q) + lt c (x (q + 1)) else c j, ⟨by omega, by omega, ?_, ?_, fun i hi => (r6 i hi).1, fun j hj => ?_⟩, ⟨by omega, by omega, ?_, ?_, fun i hi => (r6 i hi).2.1, fun j hj => ?_⟩, ⟨fun i hi => by have := (r6 i hi).2.2; omega, fun j hj => ?_⟩⟩, ?_⟩
  · rw [kI_1, if_neg (by decide)]
    exact r4
  · rw [kI_1, if_pos rfl]
  · show τ2.2.2.1 1 j = _ ∧ τ2.2.2.1 2 j = _ ∧ τ2.2.2.1 3 j = _
    rw [r7.2.2.1 1 (by decide), r7.2.2.1 2 (by decide), r7.2.2.1 3 (by decide), kA_ne _ _ _ _ (by decide), kA_ne _ _ _ _ (by decide), kA_3]
    show B1.2.2.1 1 j = nI (if j = k then x q else a j) ∧ B1.2.2.1 2 j = nI (if j = k then x (q + 1) else b j) ∧ (if 3 = 3 ∧ j = k then _ else _) = (if j = k then _ else _)
    by_cases e : j = k
    · subst e
      simp only [if_true, and_self]
      exact ⟨Ba, Bb, trivial⟩
    · rw [if_neg e, if_neg e, if_neg e, if_neg (fun w => e w.2), B3 j (by omega), hB1, kA_ne _ _ _ _ (by decide), kA_3, if_neg (fun w => e w.2), kA_3, if_neg (fun w => e w.2), kA_ne _ _ _ _ (by decide), c2.2.2.1 1 (by decide), c2.2.2.1 2 (by decide)]
      exact ⟨(hab j (by omega)).1, (hab j (by omega)).2.1, rfl⟩
  · rw [kI_1, if_neg (by decide)]
    exact r5
  · rw [kI_1, if_pos rfl]
  · show s.2.2.1 34 j = _ ∧ s.2.2.1 35 j = _
    rw [r8.2.2.1 34 (by decide), r8.2.2.1 35 (by decide), kA_ne _ _ _ _ (show 34 ≠ 35 by decide), kA_3 (kA σ 34 k (nI (x q)))]
    show (kA σ 34 k (nI (x q))).2.2.1 34 j = nI (if j = k then x q else a j) ∧ (if 35 = 35 ∧ j = k then _ else _) = nI (if j = k then x (q + 1) else b j)
    rw [kA_3, kA_ne σ 34 k (nI (x q)) (show 35 ≠ 34 by decide)]
    by_cases e : j = k
    · subst e
      simp only [if_true, and_self]
    · rw [if_neg (c := 34 = 34 ∧ j = k) (fun w => e w.2), if_neg (c := 35 = 35 ∧ j = k) (fun w => e w.2), if_neg e, if_neg e]
      exact p4 j (by omega)
  · by_cases e : j = k
    · subst e
      simp only [if_true]
      rw [lc _ _ x1, lc _ _ x2]
      exact ⟨x1, x2, rfl⟩
    · simp only [if_neg e]
      obtain ⟨w1, w2, w3⟩ := hG.2 j (by omega)
      rw [lc _ _ (by omega), lc _ _ (by omega)]
      exact ⟨w1, w2, w3⟩
  · exact kfr_trans (kfr_trans (kfr_trans (kfr_A (by decide)) (kfr_A (by decide))) (kfr_mono r8 (by decide) (by decide) (by decide) (by decide))) (kfr_I (by decide))
