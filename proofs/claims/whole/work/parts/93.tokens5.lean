/-! TOKENS, 5: the call of feed -/
theorem op_feed {N : Nat} (hN : 300 ≤ N) {τ σ : kS} (h : R_Tk τ σ) (v : Int64) (w : Int32) : ∃ r τ2 s, kf_Tk_addLetters N τ v w = some (r, τ2) ∧ kf_PM_feed N σ v w = some (r, s) ∧ R_Tk τ2 s ∧ fTk σ s := by
  have keep := h
  obtain ⟨n, k, x, a, b, c, ⟨hn, hk, h5, h6, hx, hab⟩, ⟨_, _, p1, p2, p3, p4⟩, hG⟩ := h
  have e1 : (1 : Int32).toInt = 1 := by decide
  have e8 : (8 : Int32).toInt = 8 := by decide
  have k1 : w < 1 ↔ w.toInt < 1 := by rw [i32lt, e1]
  have k2 : w ≤ 8 ↔ w.toInt ≤ 8 := by rw [Int32.le_iff_toInt_le, e8]
  have r8 : rg 8 := ⟨by decide, by decide⟩
  unfold kf_Tk_addLetters kb_Tk_addLetters_0 kb_Tk_addLetters_11 kf_PM_feed kb_PM_feed_0
  rw [show (1 : Int64) = zL 1 from rfl, show (8 : Int64) = zL 8 from rfl, pm_isIn N w rg_1 r8, Option.bind_some]
  by_cases hw : 1 ≤ w.toInt ∧ w.toInt ≤ 8
  case neg =>
    rw [if_pos (c := bI _ = 0) (bI_0.mpr hw)]
    by_cases h1 : w.toInt < 1
    · rw [if_pos (k1.mpr h1)]
      exact ⟨_, _, _, rfl, rfl, keep, kfr_refl _ _ _ _ _⟩
    · rw [if_neg (fun q => h1 (k1.mp q)), if_neg (fun q => by have := k2.mp q; omega)]
      exact ⟨_, _, _, rfl, rfl, keep, kfr_refl _ _ _ _ _⟩
  rw [if_neg (c := bI _ = 0) (fun q => bI_0.mp q hw), if_neg (fun q => by have := k1.mp q; omega), if_pos (k2.mpr hw.2)]
  obtain ⟨m, hm, rfl⟩ := nI_ofR (v := w) (m := 8) (by omega) hw.2
  obtain ⟨f, hf⟩ := byt_b v
  rcases fd_check (N := N) τ σ v hf hm m 0 N N (by omega) (by omega) (by omega) with ⟨r1, r2, r3⟩ | ⟨r1, r2⟩
  · have r2' : kb_Tk_addLetters_16 N N τ v (nI m) 0 = _ := r2
    have r3' : kb_PM_feed_17 N N σ v (nI m) 0 = _ := r3
    rw [r2', r3', h5, p1, nI_add]
    by_cases h0 : n + m ≤ 200
    · have h200 : nI (n + m) ≤ 200 := by rw [show (200 : Int32) = nI 200 from rfl, nI_leI (by omega) (by omega)]; omega
      rw [if_pos h200, if_pos h200]
      obtain ⟨τ2, s, q1, q2, q3, q4, q5, q6, q7⟩ := fd_put (N := N) v (X := fun i => if i < n then x i else f (i - n) - 97) hf hm h0 (fun i hi => by
        simp only [show ¬ n + i < n by omega, if_false, show n + i - n = i by omega]) (fun i hi => r1 i (by omega) hi) m 0 N N τ σ (by omega) (by omega) (by omega) h5 p1 (fun q hq => by
        simp only [show q < n by omega, if_true]
        exact ⟨hx q (by omega), p3 q (by omega)⟩)
      refine ⟨_, τ2, s, q1, q2, ⟨n + m, k, fun i => if i < n then x i else f (i - n) - 97, a, b, c, ⟨h0, hk, q3, (q6.1 6 (by decide)).trans h6, fun i hi => (q5 i hi).1, fun j hj => by
        rw [q6.2.2.1 1 (by decide), q6.2.2.1 2 (by decide), q6.2.2.1 3 (by decide)]
        exact hab j hj⟩, ⟨h0, hk, q4, (q7.1 33 (by decide)).trans p2, fun i hi => (q5 i hi).2, fun j hj => by
        rw [q7.2.2.1 34 (by decide), q7.2.2.1 35 (by decide)]
        exact p4 j hj⟩, ⟨fun i hi => ?_, hG.2⟩⟩, kfr_mono q7 (by decide) (by decide) (by decide) (by decide)⟩
      by_cases hi2 : i < n
      · simp only [hi2, if_true]
        exact hG.1 i hi2
      · simp only [hi2, if_false]
        have := r1 (i - n) (by omega) (by omega)
        omega
    · have h200 : ¬ nI (n + m) ≤ 200 := by rw [show (200 : Int32) = nI 200 from rfl, nI_leI (by omega) (by omega)]; omega
      rw [if_neg h200, if_neg h200]
      exact ⟨_, _, _, rfl, rfl, keep, kfr_refl _ _ _ _ _⟩
  · exact ⟨_, _, _, r1, r2, keep, kfr_refl _ _ _ _ _⟩
