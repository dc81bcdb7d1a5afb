/-! THE TAPE, 25: the sides that the reference makes for an act -/
abbrev fFt (σ s : kS) : Prop := kfr [11] [] [12] [] σ s
theorem rSt_ft {X : tX} {σ s : kS} (h : fFt σ s) (g : rSt X σ) : rSt X s := rSt_fr h (by decide) (by decide) (by decide) (by decide) (by decide) (by decide) g
/-- the sides made: z of them, those of P -/
def mkd (z : Nat) (P : Nat → Nat) (s : kS) : Prop := s.1 11 = nI z ∧ ∀ k, k < z → s.2.2.1 12 k = nI (P (3 - z + k))
theorem r_back1 {X : tX} {σ : kS} (h : rSt X σ) (ok : x_ok X) {i k : Nat} (hi : i < x_n X) (h1 : 1 ≤ k) (hk : k ≤ 3) {β : Type} (f : Int32 → Option β) : (Option.bind (mj_tab (σ.2.2.1 6) 50 (nI i)) fun x47 => if x47 < nI k then f 1 else Option.bind (mj_tab (σ.2.2.1 6) 50 (nI i)) fun x63 => Option.bind (mj_tab (σ.2.2.1 7) 150 (((3 * nI i) + x63) - nI k)) fun x68 => f x68) = f (nI (x_P X i (3 - k))) := by
  have hn := ok.1
  have sh := (ok.2 i hi).2.1
  have s3 := sh.1
  obtain ⟨q1, q2, q3, q4, q5⟩ := h.2 i hi
  rw [mj_tab_nI (by omega) (by omega), Option.bind_some, q4]
  by_cases e : x_s X i < k
  · rw [if_pos (by rw [nI_ltI (by omega) (by omega)]; exact e), sh.2.2.1 (3 - k) (by omega)]
    rfl
  · rw [if_neg (by rw [nI_ltI (by omega) (by omega)]; exact e), Option.bind_some, rn_back h ok hi h1 (by omega), Option.bind_some]
theorem r_sprd {X : tX} (ok : x_ok X) {N : Nat} {a b n : Nat} (ha : a < x_n X) (hb : b < x_n X) (hn3 : n ≤ 3) : ∀ d k fu s, d + k = n + 1 → 1 ≤ k → d < fu → rSt X s → (∀ q, n + 1 ≤ q + k → q < n → s.2.2.1 12 q = nI (max (x_P X a (3 - n + q)) (x_P X b (3 - n + q)))) →
    ((∀ q, k ≤ q → q ≤ n → spd (x_P X a (3 - q)) (x_P X b (3 - q))) → ∃ s', kb_PM_spreads_34 N fu s (nI a) (nI b) (nI n) (nI k) = some (1, s') ∧ fFt s s' ∧ mkd n (fun k => max (x_P X a k) (x_P X b k)) s') ∧
    ((∃ q, k ≤ q ∧ q ≤ n ∧ ¬ spd (x_P X a (3 - q)) (x_P X b (3 - q))) → ∃ s', kb_PM_spreads_34 N fu s (nI a) (nI b) (nI n) (nI k) = some (0, s') ∧ fFt s s') := by
  have hn := ok.1
  intro d
  induction d with
  | zero =>
    intro k fu s hd h1 hf hs hm
    obtain ⟨f', rfl⟩ : ∃ f', fu = f' + 1 := ⟨fu - 1, by omega⟩
    refine ⟨fun _ => ⟨kI s 11 (nI n), ?_, kfr_I (by decide), by rw [kI_1, if_pos rfl], fun q hq => hm q (by omega) hq⟩, fun ⟨q, h2, h3, _⟩ => by omega⟩
    rw [kb_PM_spreads_34, if_pos (by rw [nI_ltI (by omega) (by omega)]; omega)]
    rfl
  | succ d ih =>
    intro k fu s hd h1 hf hs hm
    obtain ⟨f', rfl⟩ : ∃ f', fu = f' + 1 := ⟨fu - 1, by omega⟩
    have pa := ((ok.2 a ha).2.1.2.1 (3 - k) (by omega))
    have pb := ((ok.2 b hb).2.1.2.1 (3 - k) (by omega))
    have head : kb_PM_spreads_34 N (f' + 1) s (nI a) (nI b) (nI n) (nI k) = kb_PM_spreads_108 N (kb_PM_spreads_34 N f') s (nI a) (nI b) (nI n) (nI k) (nI (x_P X a (3 - k))) (nI (x_P X b (3 - k))) := by
      rw [kb_PM_spreads_34, if_neg (by rw [nI_ltI (by omega) (by omega)]; omega)]
      refine (r_back1 hs ok ha h1 (by omega) (fun x => kb_PM_spreads_73 N (kb_PM_spreads_34 N f') s (nI a) (nI b) (nI n) (nI k) x)).trans ?_
      unfold kb_PM_spreads_73
      exact r_back1 hs ok hb h1 (by omega) (fun x => kb_PM_spreads_108 N (kb_PM_spreads_34 N f') s (nI a) (nI b) (nI n) (nI k) (nI (x_P X a (3 - k))) x)
    have one : ∀ x : Nat, x ≤ 64 → (nI x = 1 ↔ x = 1) := fun x hx => by rw [show (1 : Int32) = nI 1 from rfl, nI_eq (by omega) (by omega)]
    obtain ⟨s1, hs1⟩ : ∃ s1, s1 = kA s 12 (n - k) (nI (max (x_P X a (3 - k)) (x_P X b (3 - k)))) := ⟨_, rfl⟩
    have f1 : fFt s s1 := by rw [hs1]; exact kfr_A (by decide)
    have good : spd (x_P X a (3 - k)) (x_P X b (3 - k)) → kb_PM_spreads_34 N (f' + 1) s (nI a) (nI b) (nI n) (nI k) = kb_PM_spreads_34 N f' s1 (nI a) (nI b) (nI n) (nI (k + 1)) := by
      intro g
      have e131 : kb_PM_spreads_131 N (kb_PM_spreads_34 N f') s (nI a) (nI b) (nI n) (nI k) (nI (x_P X a (3 - k))) (nI (x_P X b (3 - k))) = kb_PM_spreads_34 N f' s1 (nI a) (nI b) (nI n) (nI (k + 1)) := by
        unfold kb_PM_spreads_131 kb_PM_spreads_153
        rw [nI_sub (show k ≤ n by omega), mj_gd_nI (by omega) (by omega), mj_gd_nI (by omega) (by omega), kk_letE, kk_letE, nI_clamp (by omega), nI_1, hs1]
        by_cases e : x_P X a (3 - k) ≤ x_P X b (3 - k)
        · rw [if_pos (by rw [nI_leI (by omega) (by omega)]; exact e), Nat.max_eq_right e]
        · rw [if_neg (by rw [nI_leI (by omega) (by omega)]; exact e), Nat.max_eq_left (by omega)]
      rw [head]
      unfold kb_PM_spreads_108
      by_cases e1 : x_P X a (3 - k) = x_P X b (3 - k)
      · rw [if_pos (by rw [e1]), e131]
      · rw [if_neg (by rw [nI_eq (by omega) (by omega)]; exact e1)]
        by_cases e2 : x_P X a (3 - k) = 1
        · rw [if_pos ((one _ pa.2).mpr e2), e131]
        · rw [if_neg (fun q => e2 ((one _ pa.2).mp q)), if_pos ((one _ pb.2).mpr ((g.resolve_left e1).resolve_left e2)), e131]
    obtain ⟨i1, i2⟩ := ih (k + 1) f' s1 (by omega) (by omega) (by omega) (rSt_ft f1 hs) (fun q hq1 hq2 => by
      rw [hs1, kA_3]
      by_cases e : q = n - k
      · rw [if_pos ⟨rfl, e⟩, e, show 3 - n + (n - k) = 3 - k by omega]
      · rw [if_neg (fun w => e w.2)]
        exact hm q (by omega) hq2)
    refine ⟨fun g => ?_, fun g => ?_⟩
    · obtain ⟨s', p1, p2, p3⟩ := i1 (fun q h2 h3 => g q (by omega) h3)
      exact ⟨s', (good (g k (Nat.le_refl _) (by omega))).trans p1, kfr_trans f1 p2, p3⟩
    · by_cases gk : spd (x_P X a (3 - k)) (x_P X b (3 - k))
      · obtain ⟨q, h2, h3, h4⟩ := g
        obtain ⟨s', p1, p2⟩ := i2 ⟨q, by
          by_cases e : q = k
          · subst e
            exact absurd gk h4
          · omega, h3, h4⟩
        exact ⟨s', (good gk).trans p1, kfr_trans f1 p2⟩
      · refine ⟨s, ?_, kfr_refl _ _ _ _ _⟩
        rw [head]
        unfold kb_PM_spreads_108
        rw [if_neg (by rw [nI_eq (by omega) (by omega)]; exact fun e => gk (Or.inl e)), if_neg (fun q => gk (Or.inr (Or.inl ((one _ pa.2).mp q)))), if_neg (fun q => gk (Or.inr (Or.inr ((one _ pb.2).mp q)))), if_pos (by decide)]
theorem r_copy {N : Nat} {z : Nat} (hz : z ≤ 3) {o a : Nat} (ha : a < 50) : ∀ d k fu s, d + k = z → d < fu → s.1 11 = nI z → (∀ q, q < k → s.2.2.1 12 q = s.2.2.1 7 (3 * a + q)) → ∃ s' f', kb_PM_fits_276 N fu s (nI o) (nI a) (nI k) = kb_PM_fits_276 N (f' + 1) s' (nI o) (nI a) (nI z) ∧ fFt s s' ∧ s'.1 11 = nI z ∧ ∀ q, q < z → s'.2.2.1 12 q = s.2.2.1 7 (3 * a + q) := by
  intro d
  induction d with
  | zero =>
    intro k fu s hd hf h11 hq
    obtain ⟨f', rfl⟩ : ∃ f', fu = f' + 1 := ⟨fu - 1, by omega⟩
    have : k = z := by omega
    subst this
    exact ⟨s, f', rfl, kfr_refl _ _ _ _ _, h11, hq⟩
  | succ d ih =>
    intro k fu s hd hf h11 hq
    obtain ⟨f', rfl⟩ : ∃ f', fu = f' + 1 := ⟨fu - 1, by omega⟩
    obtain ⟨s', f2, q1, q2, q3, q4⟩ := ih (k + 1) f' (kA s 12 k (s.2.2.1 7 (3 * a + k))) (by omega) (by omega) h11 (fun q hq' => by
      rw [kA_3, kA_ne _ _ _ _ (show 7 ≠ 12 by decide)]
      by_cases e : q = k
      · rw [if_pos ⟨rfl, e⟩, e]
      · rw [if_neg (fun w => e w.2)]
        exact hq q (by omega))
    refine ⟨s', f2, ?_, kfr_trans (kfr_A (by decide)) q2, q3, fun q hq' => ?_⟩
    · rw [kb_PM_fits_276, h11, if_neg (by rw [nI_leI (by omega) (by omega)]; omega), n3, mj_tab_nI (by omega) (by omega), Option.bind_some, mj_gd_nI (by omega) (by omega), kk_letE, nI_clamp (by omega), nI_1]
      exact q1
    · rw [q4 q hq', kA_ne _ _ _ _ (show 7 ≠ 12 by decide)]
def skp (b q : Nat) : Nat := if q < b then q else q + 1
theorem r_skip {X : tX} (ok : x_ok X) {N : Nat} {a b : Nat} (ha : a < x_n X) (hb : b < x_s X a) : ∀ d k fu s, d + k = x_s X a → d < fu → rSt X s → s.1 11 = nI (if k ≤ b then k else k - 1) → (∀ q, q < (if k ≤ b then k else k - 1) → s.2.2.1 12 q = nI (x_P X a (3 - x_s X a + skp b q))) → ∃ s', kb_PM_fits_168 N fu s (nI a) (nI b) (nI k) = some (1, s') ∧ fFt s s' ∧ s'.1 11 = nI (x_s X a - 1) ∧ ∀ q, q < x_s X a - 1 → s'.2.2.1 12 q = nI (x_P X a (3 - x_s X a + skp b q)) := by
  have hn := ok.1
  have s3 := (ok.2 a ha).2.1.1
  intro d
  induction d with
  | zero =>
    intro k fu s hd hf hs h11 hq
    obtain ⟨f', rfl⟩ : ∃ f', fu = f' + 1 := ⟨fu - 1, by omega⟩
    have : k = x_s X a := by omega
    subst this
    rw [if_neg (by omega)] at h11 hq
    refine ⟨s, ?_, kfr_refl _ _ _ _ _, h11, hq⟩
    rw [kb_PM_fits_168, mj_tab_nI (by omega) (by omega), Option.bind_some, (hs.2 a ha).2.2.2.1, if_pos (Int32.le_refl _), if_pos (by decide)]
  | succ d ih =>
    intro k fu s hd hf hs h11 hq
    obtain ⟨f', rfl⟩ : ∃ f', fu = f' + 1 := ⟨fu - 1, by omega⟩
    obtain ⟨q1, q2, q3, q4, q5⟩ := hs.2 a ha
    by_cases e : k = b
    · subst e
      obtain ⟨s', p⟩ := ih (k + 1) f' s (by omega) (by omega) hs (by rw [h11, if_pos (Nat.le_refl _), if_neg (by omega)]; rfl) (fun q hq' => hq q (by
        rw [if_pos (Nat.le_refl _)]
        rw [if_neg (by omega)] at hq'
        exact hq'))
      refine ⟨s', ?_, p.2⟩
      rw [kb_PM_fits_168, mj_tab_nI (by omega) (by omega), Option.bind_some, q4, if_neg (by rw [nI_leI (by omega) (by omega)]; omega), if_pos rfl]
      unfold kb_PM_fits_213
      rw [nI_1]
      exact p.1
    · obtain ⟨m, hm⟩ : ∃ m, m = if k ≤ b then k else k - 1 := ⟨_, rfl⟩
      rw [← hm] at h11 hq
      have mb : m ≤ 2 := by
        rw [hm]
        split <;> omega
      have mn : (if k + 1 ≤ b then k + 1 else k + 1 - 1) = m + 1 := by
        rw [hm]
        by_cases e1 : k ≤ b
        · rw [if_pos e1, if_pos (by omega)]
        · rw [if_neg e1, if_neg (by omega)]
          omega
      have sk : skp b m = k := by
        unfold skp
        rw [hm]
        by_cases e1 : k ≤ b
        · rw [if_pos e1, if_pos (by omega)]
        · rw [if_neg e1, if_neg (by omega)]
          omega
      have f1 : fFt s (kA (kI s 11 (nI (m + 1))) 12 m (nI (x_P X a (3 - x_s X a + k)))) := kfr_trans (kfr_I (by decide)) (kfr_A (by decide))
      obtain ⟨s', p⟩ := ih (k + 1) f' (kA (kI s 11 (nI (m + 1))) 12 m (nI (x_P X a (3 - x_s X a + k)))) (by omega) (by omega) (rSt_ft f1 hs) (by
          rw [mn, kA_1, kI_1, if_pos rfl]) (fun q hq' => by
          rw [mn] at hq'
          rw [kA_3]
          by_cases e1 : q = m
          · rw [if_pos ⟨rfl, e1⟩, e1, sk]
          · rw [if_neg (fun w => e1 w.2)]
            exact hq q (by omega))
      refine ⟨s', ?_, kfr_trans f1 p.2.1, p.2.2⟩
      have q5' : (kI s 11 (nI (m + 1))).2.2.1 7 (3 * a + k) = nI (x_P X a (3 - x_s X a + k)) := q5 k (by omega)
      rw [kb_PM_fits_168, mj_tab_nI (by omega) (by omega), Option.bind_some, q4, if_neg (by rw [nI_leI (by omega) (by omega)]; omega), if_neg (fun w => e ((nI_eq (by omega) (by omega)).mp w)), h11, nI_1, kk_letE, n3, mj_tab_nI (by omega) (by omega), Option.bind_some, q5', mj_gd_nI (by omega) (by omega), kk_letE, nI_clamp (by omega)]
      unfold kb_PM_fits_213
      rw [nI_1]
      exact p.1
theorem skp_P {A : Nat → Nat} {z b : Nat} (hz : z ≤ 3) (hb : b < z) {k : Nat} (hk : k < z - 1) : A (3 - z + skp b k) = m3 1 (if 3 - z + b = 0 then A 1 else A 0) (if 3 - z + b = 2 then A 1 else A 2) (3 - (z - 1) + k) := by
  have : (z = 2 ∧ k = 0 ∧ b = 0) ∨ (z = 2 ∧ k = 0 ∧ b = 1) ∨ (z = 3 ∧ k = 0 ∧ b = 0) ∨ (z = 3 ∧ k = 0 ∧ b = 1) ∨ (z = 3 ∧ k = 0 ∧ b = 2) ∨ (z = 3 ∧ k = 1 ∧ b = 0) ∨ (z = 3 ∧ k = 1 ∧ b = 1) ∨ (z = 3 ∧ k = 1 ∧ b = 2) := by omega
  rcases this with ⟨rfl, rfl, rfl⟩ | ⟨rfl, rfl, rfl⟩ | ⟨rfl, rfl, rfl⟩ | ⟨rfl, rfl, rfl⟩ | ⟨rfl, rfl, rfl⟩ | ⟨rfl, rfl, rfl⟩ | ⟨rfl, rfl, rfl⟩ | ⟨rfl, rfl, rfl⟩ <;> rfl
