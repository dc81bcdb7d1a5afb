/-! TOKENS, 3: all merges done -/
theorem tk_enc {N : Nat} (hN : 300 ≤ N) {k : Nat} {a b : Nat → Nat} {c : Nat → Int32} : ∀ (d j f1 f2 n : Nat) (τ σ : kS) (x : Nat → Nat), d + j = k → d < f1 → d < f2 → tkV n k x a b c τ → ptV n k x a b σ → tkG n k x a b c →
    ∃ (r : Int32) (τ2 s : kS), kb_Tk_doAllMerges_2 N f1 τ (nI j) = some (r, τ2) ∧ kb_PM_encode_2 N f2 σ (nI j) = some (r, s) ∧ R_Tk τ2 s ∧ fTk σ s := by
  intro d
  induction d with
  | zero =>
    intro j f1 f2 n τ σ x hd hf1 hf2 h1 h2 h3
    obtain ⟨f1', rfl⟩ : ∃ f', f1 = f' + 1 := ⟨f1 - 1, by omega⟩
    obtain ⟨f2', rfl⟩ : ∃ f', f2 = f' + 1 := ⟨f2 - 1, by omega⟩
    have hj : j = k := by omega
    subst hj
    refine ⟨nI n, τ, σ, ?_, ?_, ⟨n, j, x, a, b, c, h1, h2, h3⟩, kfr_refl _ _ _ _ _⟩
    · rw [kb_Tk_doAllMerges_2, h1.2.2.2.1, if_pos (Int32.le_refl _), h1.2.2.1]
    · rw [kb_PM_encode_2, h2.2.2.2.1, if_pos (Int32.le_refl _), h2.2.2.1]
  | succ d ih =>
    intro j f1 f2 n τ σ x hd hf1 hf2 h1 h2 h3
    obtain ⟨f1', rfl⟩ : ∃ f', f1 = f' + 1 := ⟨f1 - 1, by omega⟩
    obtain ⟨f2', rfl⟩ : ∃ f', f2 = f' + 1 := ⟨f2 - 1, by omega⟩
    obtain ⟨hn, hk, h5, h6, hx, hab⟩ := id h1
    obtain ⟨_, _, p1, p2, p3, p4⟩ := id h2
    obtain ⟨q1, q2, q3⟩ := hab j (by omega)
    obtain ⟨q4, q5⟩ := p4 j (by omega)
    obtain ⟨ga, gb, gc⟩ := h3.2 j (by omega)
    have hle : ¬ nI k ≤ nI j := by rw [nI_leI (by omega) (by omega)]; omega
    obtain ⟨τ2, s, n2, x2, r1, r2, r3, r4, r5, r6, r7, r8⟩ := tk_join (N := N) (n := n) (A := a j) (B := b j) (T := 26 + j) (M := 26 + k) (g := j) hn (by omega) (by omega) (by omega) (by omega) (by omega) rfl n 0 0 N N τ σ x (by omega) (by omega) (by omega) (by omega) h5 p1 q1 q2 (fun q hq => ⟨hx q hq, p3 q hq, h3.1 q hq⟩)
    obtain ⟨r, τ3, s3, w1, w2, w3, w4⟩ := ih (j + 1) f1' f2' n2 τ2 s x2 (by omega) (by omega) (by omega)
      ⟨by omega, hk, r4, (r7.1 6 (by decide)).trans h6, fun i hi => (r6 i hi).1, fun i hi => by
        rw [r7.2.2.1 1 (by decide), r7.2.2.1 2 (by decide), r7.2.2.1 3 (by decide)]
        exact hab i hi⟩
      ⟨by omega, hk, r5, (r8.1 33 (by decide)).trans p2, fun i hi => (r6 i hi).2.1, fun i hi => by
        rw [r8.2.2.1 34 (by decide), r8.2.2.1 35 (by decide)]
        exact p4 i hi⟩
      ⟨fun i hi => (r6 i hi).2.2, h3.2⟩
    refine ⟨r, τ3, s3, ?_, ?_, w3, kfr_trans (kfr_mono r8 (by decide) (by decide) (by decide) (by decide)) w4⟩
    · have e : kf_Tk_doMerge N τ (nI j) = some ((), τ2) := r1
      rw [kb_Tk_doAllMerges_2, h6, if_neg hle, e, kk_some, nI_1]
      exact w1
    · have e : kf_PM_joins N σ (nI (a j)) (nI (b j)) (nI (26 + j)) = some ((), s) := r2
      rw [kb_PM_encode_2, p2, if_neg hle, mj_tab_nI (by omega) (by omega), Option.bind_some, q4, mj_tab_nI (by omega) (by omega), Option.bind_some, q5, show (26 : Int32) + nI j = nI (26 + j) from nI_add 26 j, e, kk_some, nI_1]
      exact w2
theorem op_encode {N : Nat} (hN : 300 ≤ N) {τ σ : kS} (h : R_Tk τ σ) : ∃ r τ2 s, kf_Tk_doAllMerges N τ = some (r, τ2) ∧ kf_PM_encode N σ = some (r, s) ∧ R_Tk τ2 s ∧ fTk σ s := by
  obtain ⟨n, k, x, a, b, c, g1, g2, g3⟩ := h
  have hk := g1.2.1
  exact tk_enc hN k 0 N N n τ σ x (by omega) (by omega) (by omega) g1 g2 g3
