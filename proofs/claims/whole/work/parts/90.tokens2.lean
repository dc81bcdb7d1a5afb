/-! TOKENS, 2: merges told, merges done -/
theorem op_merged {N : Nat} (hN : 100 ≤ N) {τ σ : kS} (h : R_Tk τ σ) (v w : Int32) : ∃ r s, kf_Tk_describeMerge N τ v w = some (r, τ) ∧ kf_PM_merged N σ v w = some (r, s) ∧ R_Tk τ s ∧ fTk σ s := by
  have keep := h
  obtain ⟨n, k, x, a, b, c, ⟨hn, hk, h5, h6, hx, hab⟩, hP, hG⟩ := h
  obtain ⟨_, _, p1, p2, p3, p4⟩ := id hP
  have e0 : (0 : Int32).toInt = 0 := by decide
  have k1 : v < 0 ↔ v.toInt < 0 := by rw [i32lt, e0]
  have k2 : v < nI k ↔ v.toInt < k := by rw [i32lt, nI_toInt (by omega)]
  unfold kf_Tk_describeMerge kb_Tk_describeMerge_0 kb_Tk_describeMerge_12 kf_PM_merged kb_PM_merged_0 kb_PM_merged_28 kb_PM_merged_54
  rw [h6, p2, nI_m1 (by omega), show (0 : Int64) = zL 0 from rfl, show (2 : Int64) = zL 2 from rfl, pm_isIn N v rg_0 ⟨by omega, by omega⟩, Option.bind_some, pm_isIn N w rg_0 ⟨by decide, by decide⟩, Option.bind_some]
  by_cases hv : 0 ≤ v.toInt ∧ v.toInt ≤ (k : Int) - 1
  case neg =>
    rw [if_pos (c := bI (0 ≤ v.toInt ∧ v.toInt ≤ (k : Int) - 1) = 0) (bI_0.mpr hv)]
    by_cases h1 : v.toInt < 0
    · rw [if_pos (k1.mpr h1)]
      exact ⟨_, _, rfl, rfl, keep, kfr_refl _ _ _ _ _⟩
    · rw [if_neg (fun q => h1 (k1.mp q)), if_neg (fun q => by have := k2.mp q; omega)]
      exact ⟨_, _, rfl, rfl, keep, kfr_refl _ _ _ _ _⟩
  rw [if_neg (c := bI (0 ≤ v.toInt ∧ v.toInt ≤ (k : Int) - 1) = 0) (fun q => bI_0.mp q hv), if_neg (fun q => by have := k1.mp q; omega), if_pos (k2.mpr (by omega))]
  obtain ⟨i, hi, rfl⟩ := nI_ofR (v := v) (m := k - 1) hv.1 (by omega)
  have h0 := hv.2
  rw [nI_toInt (by omega)] at h0
  obtain ⟨q1, q2, q3⟩ := hab i (by omega)
  obtain ⟨q4, q5⟩ := p4 i (by omega)
  simp only [mj_tab_nI (n := 60) (show i < 60 by omega) (by omega), Option.bind_some, q1, q2, q3, q4, q5]
  by_cases hw : 0 ≤ w.toInt ∧ w.toInt ≤ 2
  case neg =>
    have n0 : ¬ w = 0 := fun e => hw (by rw [e]; decide)
    have n1 : ¬ w = 1 := fun e => hw (by rw [e]; decide)
    have n2 : ¬ w = 2 := fun e => hw (by rw [e]; decide)
    rw [if_pos (c := bI (0 ≤ w.toInt ∧ w.toInt ≤ 2) = 0) (bI_0.mpr hw), if_neg n0, if_neg n1, if_neg n2]
    exact ⟨_, _, rfl, rfl, keep, kfr_refl _ _ _ _ _⟩
  rw [if_neg (c := bI (0 ≤ w.toInt ∧ w.toInt ≤ 2) = 0) (fun q => bI_0.mp q hw)]
  obtain ⟨u, hu, rfl⟩ := nI_ofR (v := w) (m := 2) hw.1 hw.2
  rcases (show u = 0 ∨ u = 1 ∨ u = 2 by omega) with e | e | e <;> subst e
  · rw [if_pos (by decide), if_neg (by decide), if_pos (by decide)]
    exact ⟨_, _, rfl, rfl, keep, kfr_refl _ _ _ _ _⟩
  · rw [if_neg (by decide), if_pos (by decide), if_neg (by decide), if_neg (by decide)]
    exact ⟨_, _, rfl, rfl, keep, kfr_refl _ _ _ _ _⟩
  · rw [if_neg (by decide), if_neg (by decide), if_pos (by decide), if_pos (by decide)]
    obtain ⟨s, m1, m2⟩ := pm_mloop (N := N) hG (i := i) (by omega) (i + 1) 0 N σ hP (by omega) (by omega) (fun q hq => absurd hq (by omega))
    exact ⟨_, s, rfl, m1, R_Tk_fr m2 (by decide) (by decide) (by decide) (by decide) (by decide) keep, kfr_mono m2 (by decide) (by decide) (by decide) (by decide)⟩
/-- one merge over the text, on both sides in step -/
theorem tk_join {N : Nat} {n A B T M g : Nat} (hn : n ≤ 200) (hA : A < 2 ^ 31) (hB : B < 2 ^ 31) (hM : M < 2 ^ 31) (hT : T < M) (hg : g < 60) (hTg : T = 26 + g) : ∀ (d i kp f1 f2 : Nat) (τ σ : kS) (x : Nat → Nat), i + d = n → d < f1 → d < f2 → kp ≤ i →
    τ.1 5 = nI n → σ.1 31 = nI n → τ.2.2.1 1 g = nI A → τ.2.2.1 2 g = nI B → (∀ q, q < n → τ.2.2.1 0 q = nI (x q) ∧ σ.2.2.1 32 q = nI (x q) ∧ x q < M) →
    ∃ (τ2 s : kS) (n2 : Nat) (x2 : Nat → Nat), kb_Tk_doMerge_4 N f1 τ (nI g) (nI kp) (nI i) = some ((), τ2) ∧ kb_PM_joins_6 N f2 σ (nI A) (nI B) (nI T) (nI kp) (nI i) = some ((), s) ∧ n2 ≤ n ∧ τ2.1 5 = nI n2 ∧ s.1 31 = nI n2 ∧ (∀ q, q < n2 → τ2.2.2.1 0 q = nI (x2 q) ∧ s.2.2.1 32 q = nI (x2 q) ∧ x2 q < M) ∧ kfr [5] [] [0] [] τ τ2 ∧ kfr [31] [] [32] [] σ s := by
  intro d
  induction d using Nat.strongRecOn with
  | _ d ih =>
    intro i kp f1 f2 τ σ x hd hf1 hf2 hkp h5 h31 h1 h2 hx
    obtain ⟨f1', rfl⟩ : ∃ f', f1 = f' + 1 := ⟨f1 - 1, by omega⟩
    obtain ⟨f2', rfl⟩ : ∃ f', f2 = f' + 1 := ⟨f2 - 1, by omega⟩
    by_cases h0 : n ≤ i
    · have hi : i = n := by omega
      subst hi
      refine ⟨kI τ 5 (nI kp), kI σ 31 (nI kp), kp, x, ?_, ?_, hkp, rfl, rfl, fun q hq => hx q (by omega), kfr_I (by decide), kfr_I (by decide)⟩
      · rw [kb_Tk_doMerge_4, h5, if_pos (Int32.le_refl _)]
        rfl
      · rw [kb_PM_joins_6, h31, if_pos (Int32.le_refl _)]
        rfl
    have hin : i < n := by omega
    -- the step, once it is known what is written
    have step : ∀ (y e : Nat), y < M → 1 ≤ e → e ≤ d → ∃ (τ2 s : kS) (n2 : Nat) (x2 : Nat → Nat), kb_Tk_doMerge_4 N f1' (kA τ 0 kp (nI y)) (nI g) (nI (kp + 1)) (nI (i + e)) = some ((), τ2) ∧ kb_PM_joins_6 N f2' (kA σ 32 kp (nI y)) (nI A) (nI B) (nI T) (nI (kp + 1)) (nI (i + e)) = some ((), s) ∧ n2 ≤ n ∧ τ2.1 5 = nI n2 ∧ s.1 31 = nI n2 ∧ (∀ q, q < n2 → τ2.2.2.1 0 q = nI (x2 q) ∧ s.2.2.1 32 q = nI (x2 q) ∧ x2 q < M) ∧ kfr [5] [] [0] [] τ τ2 ∧ kfr [31] [] [32] [] σ s := by
      intro y e hy he hed
      obtain ⟨τ2, s, n2, x2, r1, r2, r3, r4, r5, r6, r7, r8⟩ := ih (d - e) (by omega) (i + e) (kp + 1) f1' f2' (kA τ 0 kp (nI y)) (kA σ 32 kp (nI y)) (fun q => if q = kp then y else x q) (by omega) (by omega) (by omega) (by omega) h5 h31 (by rw [kA_ne _ _ _ _ (by decide)]; exact h1) (by rw [kA_ne _ _ _ _ (by decide)]; exact h2) (fun q hq => by
        rw [kA_3, kA_3]
        by_cases e : q = kp
        · simp only [e, and_self, if_true]
          exact ⟨trivial, trivial, hy⟩
        · simp only [e, and_false, if_false]
          exact hx q hq)
      exact ⟨τ2, s, n2, x2, r1, r2, r3, r4, r5, r6, kfr_trans (kfr_A (by decide)) r7, kfr_trans (kfr_A (by decide)) r8⟩
    obtain ⟨t1, t2, t3⟩ := hx i hin
    have plain : ∃ (τ2 s : kS) (n2 : Nat) (x2 : Nat → Nat), kb_Tk_doMerge_58 N (kb_Tk_doMerge_4 N f1') τ (nI g) (nI kp) (nI i) = some ((), τ2) ∧ kb_PM_joins_54 N (kb_PM_joins_6 N f2') σ (nI A) (nI B) (nI T) (nI kp) (nI i) = some ((), s) ∧ n2 ≤ n ∧ τ2.1 5 = nI n2 ∧ s.1 31 = nI n2 ∧ (∀ q, q < n2 → τ2.2.2.1 0 q = nI (x2 q) ∧ s.2.2.1 32 q = nI (x2 q) ∧ x2 q < M) ∧ kfr [5] [] [0] [] τ τ2 ∧ kfr [31] [] [32] [] σ s := by
      unfold kb_Tk_doMerge_58 kb_Tk_doMerge_59 kb_Tk_doMerge_84 kb_Tk_doMerge_99 kb_PM_joins_54 kb_PM_joins_55 kb_PM_joins_82 kb_PM_joins_95 kk_let
      simp only [if_true, mj_tab_nI (n := 200) (show i < 200 by omega) (by omega), Option.bind_some, t1, t2, mj_gd_nI (show kp < 200 by omega) (show 200 < 2 ^ 31 by omega), nI_clamp (show kp < 2 ^ 31 by omega), nI_1]
      exact step (x i) 1 t3 (by omega) (by omega)
    have hle : ¬ nI n ≤ nI i := by rw [nI_leI (by omega) (by omega)]; omega
    rw [kb_Tk_doMerge_4, h5, if_neg hle, kb_PM_joins_6, h31, if_neg hle]
    by_cases hl : n ≤ i + 1
    · have hl2 : nI n ≤ nI i + 1 := by rw [nI_1, nI_leI (by omega) (by omega)]; omega
      rw [if_pos hl2, if_pos hl2]
      exact plain
    have hl2 : ¬ nI n ≤ nI i + 1 := by rw [nI_1, nI_leI (by omega) (by omega)]; omega
    obtain ⟨u1, u2, u3⟩ := hx (i + 1) (by omega)
    rw [if_neg hl2, if_neg hl2]
    simp only [nI_1, mj_tab_nI (n := 200) (show i < 200 by omega) (by omega), mj_tab_nI (n := 200) (show i + 1 < 200 by omega) (by omega), mj_tab_nI (n := 60) hg (by omega), Option.bind_some, t1, t2, u1, u2, h1, h2]
    by_cases ea : x i = A
    · have qa : nI (x i) = nI A := by rw [ea]
      rw [if_pos qa, if_pos qa]
      by_cases eb : x (i + 1) = B
      · have qb : nI (x (i + 1)) = nI B := by rw [eb]
        rw [if_pos qb, if_pos qb]
        unfold kb_Tk_doMerge_59 kb_Tk_doMerge_84 kb_Tk_doMerge_99 kb_PM_joins_55 kb_PM_joins_82 kb_PM_joins_95 kk_let
        have eT : (26 : Int32) + nI g = nI T := by rw [show (26 : Int32) = nI 26 from rfl, nI_add, hTg]
        have e2 : nI i + 2 = nI (i + 2) := nI_add i 2
        simp only [if_neg (show ¬ (1 : Int32) = 0 by decide), mj_gd_nI (show kp < 200 by omega) (show 200 < 2 ^ 31 by omega), nI_clamp (show kp < 2 ^ 31 by omega), nI_1, eT, e2]
        exact step T 2 hT (by omega) (by omega)
      · have qb : ¬ nI (x (i + 1)) = nI B := fun q => eb ((nI_eq (by omega) (by omega)).mp q)
        rw [if_neg qb, if_neg qb]
        exact plain
    · have qa : ¬ nI (x i) = nI A := fun q => ea ((nI_eq (by omega) (by omega)).mp q)
      rw [if_neg qa, if_neg qa]
      exact plain
