/-! THE TAPE, 24: the reference makes a leaf -/
theorem rTp_new {X : tX} {V : tF} {pm : Nat → Bool} {rt : Option Rat} {σ s : kS} (ok : x_ok X) (xv : xV X V) (h : rTp X V pm rt σ) {o a b z : Nat} {P : Nat → Nat} (hz : z ≤ 3) (h2 : s.1 2 = nI (x_n X + 1)) (h3 : ∀ i, i < x_n X → s.2.2.1 3 i = σ.2.2.1 3 i ∧ s.2.2.1 4 i = σ.2.2.1 4 i ∧ s.2.2.1 5 i = σ.2.2.1 5 i ∧ s.2.2.1 6 i = σ.2.2.1 6 i) (h7 : ∀ q, q < 3 * x_n X → s.2.2.1 7 q = σ.2.2.1 7 q)
    (n3' : s.2.2.1 3 (x_n X) = oI o o ∧ s.2.2.1 4 (x_n X) = oI o a ∧ s.2.2.1 5 (x_n X) = oI o b ∧ s.2.2.1 6 (x_n X) = nI z) (n7 : ∀ k, k < z → s.2.2.1 7 (3 * x_n X + k) = nI (P (3 - z + k)))
    (h9 : ∀ q, q < 64 * x_n X → s.2.2.2 9 q = σ.2.2.2 9 q ∧ s.2.2.2 10 q = σ.2.2.2 10 q) (n9 : o = 16 → ∀ c, c < c3 P → s.2.2.2 9 (64 * x_n X + c) = 0 ∧ s.2.2.2 10 (64 * x_n X + c) = 1) (h8 : ∀ j, s.2.2.1 8 j = σ.2.2.1 8 j) (l18 : s.2.1 18 = σ.2.1 18) (l19 : s.2.1 19 = σ.2.1 19) : rTp (xE X o a b z P) (VE X V o a b z P) pm rt s := by
  refine ⟨⟨h2, fun i hi => ?_⟩, fun j hj ho c hc => ?_, fun j hj => (h8 j).trans (h.2.2.1 j hj), l18.trans h.2.2.2.1, l19.trans h.2.2.2.2⟩
  · rw [xE_n] at hi
    by_cases e : i = x_n X
    · subst e
      obtain ⟨n1, n2, n3, n4, n5⟩ := xE_new X o a b z P
      rw [n1, n2, n3, n4, n5]
      exact ⟨n3'.1, n3'.2.1, n3'.2.2.1, n3'.2.2.2, n7⟩
    · have hi' : i < x_n X := by omega
      obtain ⟨e1, e2, e3, e4, e5⟩ := xE_eq X o a b z P i hi'
      obtain ⟨q1, q2, q3, q4, q5⟩ := h.1.2 i hi'
      obtain ⟨w1, w2, w3, w4⟩ := h3 i hi'
      have s3 := (ok.2 i hi').2.1.1
      rw [e1, e2, e3, e4, e5, w1, w2, w3, w4]
      refine ⟨q1, q2, q3, q4, fun k hk => ?_⟩
      rw [h7 _ (by omega)]
      exact q5 k hk
  · rw [xE_n] at hj
    by_cases e : j = x_n X
    · subst e
      obtain ⟨n1, n2, n3, n4, n5⟩ := xE_new X o a b z P
      have o16 : o = 16 := n1.symm.trans ho
      have hc' : c < c3 P := by
        unfold x_c at hc
        rw [n5] at hc
        exact hc
      subst o16
      rw [VE_leaf, (n9 rfl c hc').1, (n9 rfl c hc').2]
      exact ⟨rfl, rfl⟩
    · have hj' : j < x_n X := by omega
      obtain ⟨e1, e2, e3, e4, e5⟩ := xE_eq X o a b z P j hj'
      have hc' : c < x_c X j := by rw [← x_eqc (xE_eq X o a b z P) hj']; exact hc
      have cb := (xc_b ok hj').2
      rw [VE_old ok xv o a b z P hj', (h9 _ (by omega)).1, (h9 _ (by omega)).2]
      exact h.2.1 j hj' (e1.symm.trans ho) c hc'
def pd3 (z : Nat) (D : Nat → Nat) : Nat → Nat := fun j => if j + z < 3 then 1 else D (j + z - 3)
theorem pd3_at {z : Nat} {D : Nat → Nat} (hz : z ≤ 3) {k : Nat} (hk : k < z) : pd3 z D (3 - z + k) = D k := by
  unfold pd3
  rw [if_neg (by omega), show 3 - z + k + z - 3 = k by omega]
theorem pre_pd {z : Nat} {D : Nat → Nat} (hz : z ≤ 3) : pre D z = c3 (pd3 z D) := by
  obtain rfl | rfl | rfl | rfl : z = 0 ∨ z = 1 ∨ z = 2 ∨ z = 3 := by omega
  · rfl
  · show 1 * D 0 = 1 * 1 * D 0
    omega
  · show 1 * D 0 * D 1 = 1 * D 0 * D 1
    rfl
  · show 1 * D 0 * D 1 * D 2 = D 0 * D 1 * D 2
    rw [Nat.one_mul]
theorem pd3_sh {z : Nat} {D : Nat → Nat} (hz : z ≤ 3) (hD : ∀ k, k < z → 1 ≤ D k ∧ D k ≤ 64) (hc : c3 (pd3 z D) ≤ 64) : x_sh z (pd3 z D) := by
  refine ⟨hz, fun k hk => ?_, fun k hk => if_pos hk, hc⟩
  unfold pd3
  split
  · omega
  · exact hD _ (by omega)
def ar3 (a b c : Int32) (k : Nat) : Int32 := if k = 0 then a else if k = 1 then b else c
theorem ar3_if {β : Type} {a b c : Int32} {k : Nat} (hk : k < 3) (f : Int32 → β) : (if nI k = 0 then f a else if nI k = 1 then f b else f c) = f (ar3 a b c k) := by
  obtain rfl | rfl | rfl : k = 0 ∨ k = 1 ∨ k = 2 := by omega
  · rfl
  · rfl
  · rfl
theorem r_len (N : Nat) (v : Int32) : kf_PM_isIn N v.toInt64 1 64 = some (bI (1 ≤ v.toInt ∧ v.toInt ≤ 64)) := by
  rw [show (1 : Int64) = zL 1 from rfl, show (64 : Int64) = zL 64 from rfl, pm_isIn N v rg_1 ⟨by decide, by decide⟩]
/-- the sides told, looked at one after the other -/
theorem r_chk {N : Nat} (σ : kS) {z : Nat} (hz : z ≤ 3) (v2 v3 v4 : Int32) : ∀ d k fu w, d + k = z → d < fu → (∀ q, k ≤ q → q < z → 1 ≤ (ar3 v2 v3 v4 q).toInt ∧ (ar3 v2 v3 v4 q).toInt ≤ 64) → ∃ f', kb_PM_leaf_20 N fu σ (nI z) v2 v3 v4 (nI (pre (fun q => (ar3 v2 v3 v4 q).toNatClampNeg) k * w)) (nI k) = kb_PM_leaf_20 N (f' + 1) σ (nI z) v2 v3 v4 (nI (pre (fun q => (ar3 v2 v3 v4 q).toNatClampNeg) z * w)) (nI z) := by
  intro d
  induction d with
  | zero =>
    intro k fu w hd hf _
    obtain ⟨f', rfl⟩ : ∃ f', fu = f' + 1 := ⟨fu - 1, by omega⟩
    have : k = z := by omega
    subst this
    exact ⟨f', rfl⟩
  | succ d ih =>
    intro k fu w hd hf hg
    obtain ⟨f', rfl⟩ : ∃ f', fu = f' + 1 := ⟨fu - 1, by omega⟩
    obtain ⟨f2, q⟩ := ih (k + 1) f' w (by omega) (by omega) (fun q h1 h2 => hg q (by omega) h2)
    refine ⟨f2, ?_⟩
    rw [← q, kb_PM_leaf_20, if_neg (by rw [nI_leI (by omega) (by omega)]; omega), ar3_if (show k < 3 by omega) (fun x => kb_PM_leaf_47 N (kb_PM_leaf_20 N f') σ (nI z) v2 v3 v4 (nI (pre (fun q => (ar3 v2 v3 v4 q).toNatClampNeg) k * w)) (nI k) x)]
    have g := hg k (Nat.le_refl _) (by omega)
    obtain ⟨w1, w2, w3⟩ := v_clamp (v := ar3 v2 v3 v4 k) (m := 64) (by omega) g.2 (by omega)
    unfold kb_PM_leaf_47
    rw [r_len, Option.bind_some, bI_t g, if_neg (by decide), nI_1]
    have e : nI (pre (fun q => (ar3 v2 v3 v4 q).toNatClampNeg) k * w) * ar3 v2 v3 v4 k = nI (pre (fun q => (ar3 v2 v3 v4 q).toNatClampNeg) (k + 1) * w) := by
      conv => lhs; arg 2; rw [w2]
      rw [nI_mul]
      congr 1
      show _ = pre (fun q => (ar3 v2 v3 v4 q).toNatClampNeg) k * (ar3 v2 v3 v4 k).toNatClampNeg * w
      rw [Nat.mul_assoc, Nat.mul_comm w, ← Nat.mul_assoc]
    rw [e]
theorem r_bad {N : Nat} (σ : kS) {z : Nat} (hz : z ≤ 3) (v2 v3 v4 : Int32) : ∀ d k fu (w : Int32), d + k = z → d < fu → (∃ q, k ≤ q ∧ q < z ∧ ¬ (1 ≤ (ar3 v2 v3 v4 q).toInt ∧ (ar3 v2 v3 v4 q).toInt ≤ 64)) → kb_PM_leaf_20 N fu σ (nI z) v2 v3 v4 w (nI k) = some (-1, σ) := by
  intro d
  induction d with
  | zero =>
    intro k fu w hd hf ⟨q, h1, h2, _⟩
    omega
  | succ d ih =>
    intro k fu w hd hf hq
    obtain ⟨f', rfl⟩ : ∃ f', fu = f' + 1 := ⟨fu - 1, by omega⟩
    rw [kb_PM_leaf_20, if_neg (by rw [nI_leI (by omega) (by omega)]; omega), ar3_if (show k < 3 by omega) (fun x => kb_PM_leaf_47 N (kb_PM_leaf_20 N f') σ (nI z) v2 v3 v4 w (nI k) x)]
    unfold kb_PM_leaf_47
    rw [r_len, Option.bind_some]
    by_cases g : 1 ≤ (ar3 v2 v3 v4 k).toInt ∧ (ar3 v2 v3 v4 k).toInt ≤ 64
    · rw [bI_t g, if_neg (by decide), nI_1]
      obtain ⟨q, h1, h2, h3⟩ := hq
      exact ih (k + 1) f' _ (by omega) (by omega) ⟨q, by
        by_cases e : q = k
        · subst e
          exact absurd g h3
        · omega, h2, h3⟩
    · rw [bI_f g, if_pos rfl]
theorem r_sides {N : Nat} {n z : Nat} (hn : n < 50) (hz : z ≤ 3) {v2 v3 v4 v5 : Int32} : ∀ d k fu s, d + k = z → d < fu → s.1 2 = nI n → (∀ q, q < k → s.2.2.1 7 (3 * n + q) = ar3 v2 v3 v4 q) → ∃ s', kb_PM_leaf_142 N fu s (nI z) v2 v3 v4 v5 (nI k) = kb_PM_leaf_192 N N s' v5 0 ∧ kfr [] [] [7] [] s s' ∧ (∀ q, q < 3 * n → s'.2.2.1 7 q = s.2.2.1 7 q) ∧ ∀ q, q < z → s'.2.2.1 7 (3 * n + q) = ar3 v2 v3 v4 q := by
  intro d
  induction d with
  | zero =>
    intro k fu s hd hf h2 hq
    obtain ⟨f', rfl⟩ : ∃ f', fu = f' + 1 := ⟨fu - 1, by omega⟩
    have : k = z := by omega
    subst this
    refine ⟨s, ?_, kfr_refl _ _ _ _ _, fun _ _ => rfl, hq⟩
    rw [kb_PM_leaf_142, if_pos (Int32.le_refl _)]
  | succ d ih =>
    intro k fu s hd hf h2 hq
    obtain ⟨f', rfl⟩ : ∃ f', fu = f' + 1 := ⟨fu - 1, by omega⟩
    obtain ⟨s', q1, q2, q3, q4⟩ := ih (k + 1) f' (kA s 7 (3 * n + k) (ar3 v2 v3 v4 k)) (by omega) (by omega) h2 (fun q hq' => by
      rw [kA_3]
      by_cases e : q = k
      · rw [if_pos ⟨rfl, by omega⟩, e]
      · rw [if_neg (fun w => by omega)]
        exact hq q (by omega))
    refine ⟨s', ?_, kfr_trans (kfr_A (by decide)) q2, fun q hq' => ?_, q4⟩
    · rw [kb_PM_leaf_142, if_neg (by rw [nI_leI (by omega) (by omega)]; omega), ar3_if (show k < 3 by omega) (fun x => kb_PM_leaf_182 N (kb_PM_leaf_142 N f') s (nI z) v2 v3 v4 v5 (nI k) (3 * s.1 2 + nI k) x)]
      unfold kb_PM_leaf_182
      rw [h2, n3, mj_gd_nI (by omega) (by omega), kk_letE, nI_clamp (by omega), nI_1]
      exact q1
    · rw [q3 q hq', kA_3, if_neg (fun w => by omega)]
theorem r_cells0 {N : Nat} {n m : Nat} (hn : n < 50) (hm : m ≤ 64) : ∀ d k fu s, d + k = m → d < fu → s.1 2 = nI n → (∀ q, q < k → s.2.2.2 9 (64 * n + q) = 0 ∧ s.2.2.2 10 (64 * n + q) = 1) → ∃ s', kb_PM_leaf_192 N fu s (nI m) (nI k) = some (nI n, kI s' 2 (nI (n + 1))) ∧ kfr [] [] [] [9, 10] s s' ∧ (∀ q, q < 64 * n → s'.2.2.2 9 q = s.2.2.2 9 q ∧ s'.2.2.2 10 q = s.2.2.2 10 q) ∧ ∀ q, q < m → s'.2.2.2 9 (64 * n + q) = 0 ∧ s'.2.2.2 10 (64 * n + q) = 1 := by
  intro d
  induction d with
  | zero =>
    intro k fu s hd hf h2 hq
    obtain ⟨f', rfl⟩ : ∃ f', fu = f' + 1 := ⟨fu - 1, by omega⟩
    have : k = m := by omega
    subst this
    refine ⟨s, ?_, kfr_refl _ _ _ _ _, fun _ _ => ⟨rfl, rfl⟩, hq⟩
    rw [kb_PM_leaf_192, if_pos (Int32.le_refl _), kk_letE, h2, nI_1]
  | succ d ih =>
    intro k fu s hd hf h2 hq
    obtain ⟨f', rfl⟩ : ∃ f', fu = f' + 1 := ⟨fu - 1, by omega⟩
    have rd : ∀ q, (kB (kB s 9 (64 * n + k) 0) 10 (64 * n + k) 1).2.2.2 9 q = (if q = 64 * n + k then 0 else s.2.2.2 9 q) ∧ (kB (kB s 9 (64 * n + k) 0) 10 (64 * n + k) 1).2.2.2 10 q = (if q = 64 * n + k then 1 else s.2.2.2 10 q) := fun q => ⟨wr2_f (σ := s) (f := 9) (g := 10) (k := 64 * n + k) (x := some 0) (by decide) q, wr2_g (σ := s) (f := 9) (g := 10) (k := 64 * n + k) (x := some 0) (by decide) q⟩
    obtain ⟨s', q1, q2, q3, q4⟩ := ih (k + 1) f' (kB (kB s 9 (64 * n + k) 0) 10 (64 * n + k) 1) (by omega) (by omega) h2 (fun q hq' => by
      rw [(rd _).1, (rd _).2]
      by_cases e : q = k
      · rw [if_pos (by omega), if_pos (by omega)]
        exact ⟨rfl, rfl⟩
      · rw [if_neg (by omega), if_neg (by omega)]
        exact hq q (by omega))
    refine ⟨s', ?_, kfr_trans (kfr_trans (kfr_B (by decide)) (kfr_B (by decide))) q2, fun q hq' => ?_, q4⟩
    · have h2' : (kB s 9 (64 * n + k) 0).1 2 = nI n := h2
      rw [kb_PM_leaf_192, if_neg (by rw [nI_leI (by omega) (by omega)]; omega), h2, n64, mj_gd_nI (by omega) (by omega), kk_letE, nI_clamp (by omega), h2', n64, mj_gd_nI (by omega) (by omega), kk_letE, nI_clamp (by omega), nI_1]
      exact q1
    · rw [(q3 q hq').1, (q3 q hq').2, (rd _).1, (rd _).2, if_neg (by omega), if_neg (by omega)]
      exact ⟨rfl, rfl⟩
/-- leaf of the reference: refused, full, or made -/
theorem r_leaf {N : Nat} (hN : 300 ≤ N) {X : tX} {V : tF} {pm : Nat → Bool} {rt : Option Rat} {σ : kS} (ok : x_ok X) (xv : xV X V) (h : rTp X V pm rt σ) (v1 v2 v3 v4 : Int32) :
    (¬ (0 ≤ v1.toInt ∧ v1.toInt ≤ 3) → kf_PM_leaf N σ v1 v2 v3 v4 = some (-1, σ)) ∧
    ∀ z, v1 = nI z → z ≤ 3 →
      ((∃ q, q < z ∧ ¬ (1 ≤ (ar3 v2 v3 v4 q).toInt ∧ (ar3 v2 v3 v4 q).toInt ≤ 64)) → kf_PM_leaf N σ v1 v2 v3 v4 = some (-1, σ)) ∧
      ((∀ q, q < z → 1 ≤ (ar3 v2 v3 v4 q).toInt ∧ (ar3 v2 v3 v4 q).toInt ≤ 64) →
        (x_n X = 50 ∨ 64 < c3 (pd3 z (fun q => (ar3 v2 v3 v4 q).toNatClampNeg)) → kf_PM_leaf N σ v1 v2 v3 v4 = some (-3, σ)) ∧
        (x_n X < 50 → c3 (pd3 z (fun q => (ar3 v2 v3 v4 q).toNatClampNeg)) ≤ 64 → ∃ s, kf_PM_leaf N σ v1 v2 v3 v4 = some (nI (x_n X), s) ∧ rTp (xE X 16 0 0 z (pd3 z (fun q => (ar3 v2 v3 v4 q).toNatClampNeg))) (VE X V 16 0 0 z (pd3 z (fun q => (ar3 v2 v3 v4 q).toNatClampNeg))) pm rt s ∧ fTp σ s)) := by
  have hn := ok.1
  have i3 : kf_PM_isIn N v1.toInt64 0 3 = some (bI (0 ≤ v1.toInt ∧ v1.toInt ≤ 3)) := by
    rw [show (0 : Int64) = zL 0 from rfl, show (3 : Int64) = zL 3 from rfl, pm_isIn N v1 rg_0 ⟨by decide, by decide⟩]
  unfold kf_PM_leaf kb_PM_leaf_0
  rw [i3, Option.bind_some]
  refine ⟨fun hb => by rw [bI_f hb, if_pos rfl], fun z hz1 hz => ?_⟩
  subst hz1
  rw [bI_t (by rw [nI_toInt (by omega)]; omega), if_neg (show ¬ (1 : Int32) = 0 by decide)]
  refine ⟨fun hb => ?_, fun hg => ?_⟩
  · obtain ⟨q, h1, h2⟩ := hb
    exact r_bad σ hz v2 v3 v4 z 0 N 1 (by omega) (by omega) ⟨q, by omega, h1, h2⟩
  obtain ⟨f', ck⟩ := r_chk (N := N) σ hz v2 v3 v4 z 0 N 1 (by omega) (by omega) (fun q _ hq => hg q hq)
  rw [Nat.mul_one, Nat.mul_one, pre_pd hz] at ck
  have ck' : kb_PM_leaf_20 N N σ (nI z) v2 v3 v4 1 0 = kb_PM_leaf_20 N (f' + 1) σ (nI z) v2 v3 v4 (nI (c3 (pd3 z (fun q => (ar3 v2 v3 v4 q).toNatClampNeg)))) (nI z) := ck
  rw [ck', kb_PM_leaf_20, if_pos (Int32.le_refl _), h.1.1]
  have dq : ∀ q, q < z → 1 ≤ (ar3 v2 v3 v4 q).toNatClampNeg ∧ (ar3 v2 v3 v4 q).toNatClampNeg ≤ 64 := fun q hq => by
    have g := hg q hq
    obtain ⟨w1, w2, w3⟩ := v_clamp (v := ar3 v2 v3 v4 q) (m := 64) (by omega) g.2 (by omega)
    omega
  have cB : c3 (pd3 z (fun q => (ar3 v2 v3 v4 q).toNatClampNeg)) ≤ 64 * 64 * 64 := by
    have p : ∀ k, k < 3 → pd3 z (fun q => (ar3 v2 v3 v4 q).toNatClampNeg) k ≤ 64 := fun k hk => by
      unfold pd3
      split
      · omega
      · exact (dq _ (by omega)).2
    exact Nat.mul_le_mul (Nat.mul_le_mul (p 0 (by omega)) (p 1 (by omega))) (p 2 (by omega))
  unfold kb_PM_leaf_93
  refine ⟨fun hb => ?_, fun hn50 hc64 => ?_⟩
  · by_cases e : x_n X = 50
    · rw [if_pos (show nI (x_n X) = 50 by rw [e]; rfl)]
    · rw [if_neg (show ¬ nI (x_n X) = 50 by rw [show (50 : Int32) = nI 50 from rfl, nI_eq (by omega) (by omega)]; exact e), if_neg (by rw [show (64 : Int32) = nI 64 from rfl, nI_leI (by omega) (by omega)]; omega)]
  · rw [if_neg (show ¬ nI (x_n X) = 50 by rw [show (50 : Int32) = nI 50 from rfl, nI_eq (by omega) (by omega)]; omega), if_pos (by rw [show (64 : Int32) = nI 64 from rfl, nI_leI (by omega) (by omega)]; omega)]
    simp only [kk_letE, kA_1, h.1.1]
    rw [mj_gd_nI hn50 (by omega), mj_gd_nI hn50 (by omega), mj_gd_nI hn50 (by omega), mj_gd_nI hn50 (by omega), nI_clamp (by omega)]
    obtain ⟨s0, hs0⟩ : ∃ s0, s0 = kA (kA (kA (kA σ 3 (x_n X) (-2)) 4 (x_n X) (-2)) 5 (x_n X) (-2)) 6 (x_n X) (nI z) := ⟨_, rfl⟩
    have f0 : kfr [] [] [3, 4, 5, 6] [] σ s0 := by
      rw [hs0]
      exact kfr_trans (kfr_trans (kfr_trans (kfr_A (by decide)) (kfr_A (by decide))) (kfr_A (by decide))) (kfr_A (by decide))
    have r3 : ∀ i, s0.2.2.1 3 i = (if i = x_n X then -2 else σ.2.2.1 3 i) ∧ s0.2.2.1 4 i = (if i = x_n X then -2 else σ.2.2.1 4 i) ∧ s0.2.2.1 5 i = (if i = x_n X then -2 else σ.2.2.1 5 i) ∧ s0.2.2.1 6 i = (if i = x_n X then nI z else σ.2.2.1 6 i) := fun i => by
      rw [hs0]
      simp only [kA_3]
      refine ⟨?_, ?_, ?_, ?_⟩ <;> simp
    have h20 : s0.1 2 = nI (x_n X) := by rw [hs0]; exact h.1.1
    obtain ⟨s1, a1, a2, a3, a4⟩ := r_sides (N := N) (v2 := v2) (v3 := v3) (v4 := v4) (v5 := nI (c3 (pd3 z (fun q => (ar3 v2 v3 v4 q).toNatClampNeg)))) hn50 hz z 0 N s0 (by omega) (by omega) h20 (fun q hq => absurd hq (by omega))
    have h21 : s1.1 2 = nI (x_n X) := (a2.1 2 (by decide)).trans h20
    obtain ⟨s2, b1, b2, b3, b4⟩ := r_cells0 (N := N) hn50 hc64 (c3 (pd3 z (fun q => (ar3 v2 v3 v4 q).toNatClampNeg))) 0 N s1 (by omega) (by omega) h21 (fun q hq => absurd hq (by omega))
    refine ⟨kI s2 2 (nI (x_n X + 1)), ?_, ?_, ?_⟩
    · rw [← hs0, show (0 : Int32) = nI 0 from rfl, a1, show (0 : Int32) = nI 0 from rfl, b1]
    · have A : ∀ f, f ≠ 7 → s2.2.2.1 f = s0.2.2.1 f := fun f hf => (b2.2.2.1 f (by simp)).trans (a2.2.2.1 f (by simp [hf]))
      refine rTp_new ok xv h hz (by rw [kI_1, if_pos rfl]) (fun i hi => ?_) (fun q hq => ?_) ?_ (fun k hk => ?_) (fun q hq => ?_) (fun _ c hc => ?_) (fun j => ?_) ?_ ?_
      · rw [kI_2, A 3 (by decide), A 4 (by decide), A 5 (by decide), A 6 (by decide), (r3 i).1, (r3 i).2.1, (r3 i).2.2.1, (r3 i).2.2.2, if_neg (by omega), if_neg (by omega), if_neg (by omega), if_neg (by omega)]
        exact ⟨rfl, rfl, rfl, rfl⟩
      · rw [kI_2, b2.2.2.1 7 (by decide), a3 q hq, f0.2.2.1 7 (by decide)]
      · rw [kI_2, A 3 (by decide), A 4 (by decide), A 5 (by decide), A 6 (by decide), (r3 _).1, (r3 _).2.1, (r3 _).2.2.1, (r3 _).2.2.2, if_pos rfl, if_pos rfl, if_pos rfl, if_pos rfl]
        exact ⟨rfl, rfl, rfl, rfl⟩
      · have g := hg k hk
        obtain ⟨w1, w2, w3⟩ := v_clamp (v := ar3 v2 v3 v4 k) (m := 64) (by omega) g.2 (by omega)
        rw [kI_2, b2.2.2.1 7 (by decide), a4 k hk, pd3_at hz hk]
        exact w2
      · rw [kI_2, (b3 q hq).1, (b3 q hq).2, a2.2.2.2 9 (by decide), a2.2.2.2 10 (by decide), f0.2.2.2 9 (by decide), f0.2.2.2 10 (by decide)]
        exact ⟨rfl, rfl⟩
      · exact b4 c hc
      · rw [kI_2, A 8 (by decide), f0.2.2.1 8 (by decide)]
      · rw [kI_2, b2.2.1 18 (by decide), a2.2.1 18 (by decide), f0.2.1 18 (by decide)]
      · rw [kI_2, b2.2.1 19 (by decide), a2.2.1 19 (by decide), f0.2.1 19 (by decide)]
    · exact kfr_trans (kfr_trans (kfr_mono f0 (by decide) (by decide) (by decide) (by decide)) (kfr_trans (kfr_mono a2 (by decide) (by decide) (by decide) (by decide)) (kfr_mono b2 (by decide) (by decide) (by decide) (by decide)))) (kfr_I (by decide))
