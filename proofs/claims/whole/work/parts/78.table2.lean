/-! THE TABLE, 2: the cost, on both sides -/
def tcost (n : Nat) (cl : Nat → Nat) (x : Nat → Nat → Int32) (c : Nat) (v : Int32) : Option Rat := tc (tl cl (fun q => x q c) v true n) (tl cl (fun q => x q c) v false n)
theorem ta_fill2 {N : Nat} (hN : 5 ≤ N) (τ : kS) : ∃ τ2, kf_Ja_fill0_Ta2 N τ 0 = some ((), τ2) ∧ (∀ k, k < 4 → τ2.2.2.1 2 k = 0) ∧ kfr [] [] [2, 3] [] τ τ2 := by
  obtain ⟨M, rfl⟩ : ∃ M, N = M + 5 := ⟨N - 5, by omega⟩
  have st : ∀ (n j : Nat) (s : kS), j < 4 → kb_Ja_fill0_Ta2_5 (M + 5) (n + 1) s 0 (nI j) (nI 4) = kb_Ja_fill0_Ta2_5 (M + 5) n (kA s 2 j 0) 0 (nI (j + 1)) (nI 4) := by
    intro n j s hj
    rw [kb_Ja_fill0_Ta2_5, if_neg (by rw [nI_leI (by omega) (by omega)]; omega), mj_gd_nI hj (by omega), nI_clamp (by omega), nI_1]
    rfl
  refine ⟨kA (kA (kA (kA τ 2 0 0) 2 1 0) 2 2 0) 2 3 0, ?_, ?_, ?_⟩
  · unfold kf_Ja_fill0_Ta2 kb_Ja_fill0_Ta2_0
    show kb_Ja_fill0_Ta2_5 (M + 5) (M + 5) τ 0 (nI 0) (nI 4) = _
    rw [st _ _ _ (by omega), st _ _ _ (by omega), st _ _ _ (by omega), st _ _ _ (by omega), kb_Ja_fill0_Ta2_5, if_pos (by rw [nI_leI (by omega) (by omega)]; omega)]
  · intro k hk
    simp only [kA_3, true_and]
    rcases (show k = 0 ∨ k = 1 ∨ k = 2 ∨ k = 3 by omega) with e | e | e | e <;> simp [e]
  · exact kfr_trans (kfr_trans (kfr_trans (kfr_A (by decide)) (kfr_A (by decide))) (kfr_A (by decide))) (kfr_A (by decide))
theorem ta_fill3 {N : Nat} (hN : 5 ≤ N) (τ : kS) : ∃ τ2, kf_Ja_fill0_Ta3 N τ 0 = some ((), τ2) ∧ (∀ k, k < 4 → τ2.2.2.1 3 k = 0) ∧ kfr [] [] [3] [] τ τ2 := by
  obtain ⟨M, rfl⟩ : ∃ M, N = M + 5 := ⟨N - 5, by omega⟩
  have st : ∀ (n j : Nat) (s : kS), j < 4 → kb_Ja_fill0_Ta3_5 (M + 5) (n + 1) s 0 (nI j) (nI 4) = kb_Ja_fill0_Ta3_5 (M + 5) n (kA s 3 j 0) 0 (nI (j + 1)) (nI 4) := by
    intro n j s hj
    rw [kb_Ja_fill0_Ta3_5, if_neg (by rw [nI_leI (by omega) (by omega)]; omega), mj_gd_nI hj (by omega), nI_clamp (by omega), nI_1]
    rfl
  refine ⟨kA (kA (kA (kA τ 3 0 0) 3 1 0) 3 2 0) 3 3 0, ?_, ?_, ?_⟩
  · unfold kf_Ja_fill0_Ta3 kb_Ja_fill0_Ta3_0
    show kb_Ja_fill0_Ta3_5 (M + 5) (M + 5) τ 0 (nI 0) (nI 4) = _
    rw [st _ _ _ (by omega), st _ _ _ (by omega), st _ _ _ (by omega), st _ _ _ (by omega), kb_Ja_fill0_Ta3_5, if_pos (by rw [nI_leI (by omega) (by omega)]; omega)]
  · intro k hk
    simp only [kA_3, true_and]
    rcases (show k = 0 ∨ k = 1 ∨ k = 2 ∨ k = 3 by omega) with e | e | e | e <;> simp [e]
  · exact kfr_trans (kfr_trans (kfr_trans (kfr_A (by decide)) (kfr_A (by decide))) (kfr_A (by decide))) (kfr_A (by decide))
theorem taV_fr {n : Nat} {cl : Nat → Nat} {x : Nat → Nat → Int32} {τ τ2 : kS} (h : kfr [] [] [2, 3] [] τ τ2) (g : taV n cl x τ) : taV n cl x τ2 := by
  refine ⟨g.1, (h.1 4 (by decide)).trans g.2.1, fun r hr => ⟨(g.2.2 r hr).1, ?_, fun c hc => ?_⟩⟩
  · rw [h.2.2.1 1 (by decide)]
    exact (g.2.2 r hr).2.1
  · rw [h.2.2.1 0 (by decide)]
    exact (g.2.2 r hr).2.2 c hc
theorem ta_cost {N : Nat} (hN : 100 ≤ N) {n c : Nat} (hc : c < 4) {cl : Nat → Nat} {x : Nat → Nat → Int32} (v : Int32) {τ : kS} (hT : taV n cl x τ) : ∃ τ2, kf_Ta_costOf N τ (nI c) v = some (en (tcost n cl x c v), τ2) ∧ kfr [] [] [2, 3] [] τ τ2 := by
  obtain ⟨τ1, a1, a2, a3⟩ := ta_fill2 (N := N) (by omega) τ
  obtain ⟨τ2, b1, b2, b3⟩ := ta_fill3 (N := N) (by omega) τ1
  have b4 : kfr [] [] [2, 3] [] τ1 τ2 := kfr_mono b3 (by decide) (by decide) (by decide) (by decide)
  obtain ⟨τ3, c1, c2⟩ := ta_loop hN hc (cl := cl) (x := x) v n 0 N τ2 (by omega) (by have := hT.1; omega) (taV_fr b4 (taV_fr a3 hT))
    (fun k hk => by
      rw [b3.2.2.1 2 (by decide), a2 k hk]
      rfl)
    (fun k hk => by
      rw [b2 k hk]
      rfl)
  refine ⟨τ3, ?_, kfr_trans a3 (kfr_trans b4 c2)⟩
  unfold kf_Ta_costOf kb_Ta_costOf_0
  rw [a1, kk_some, b1, kk_some]
  exact c1
/-! the reference -/
def pmV (n : Nat) (cl : Nat → Nat) (x : Nat → Nat → Int32) (σ : kS) : Prop := n ≤ 40 ∧ σ.1 20 = nI n ∧ ∀ r, r < n → cl r < 4 ∧ σ.2.2.1 21 (5 * r + 4) = nI (cl r) ∧ ∀ c, c < 4 → σ.2.2.1 21 (5 * r + c) = x r c
theorem pmV_fr {n : Nat} {cl : Nat → Nat} {x : Nat → Nat → Int32} {σ s : kS} {I L A B : List Nat} (h : kfr I L A B σ s) (hI : 20 ∉ I) (hA : 21 ∉ A) (g : pmV n cl x σ) : pmV n cl x s := by
  refine ⟨g.1, (h.1 20 hI).trans g.2.1, fun r hr => ⟨(g.2.2 r hr).1, ?_, fun c hc => ?_⟩⟩
  · rw [h.2.2.1 21 hA]
    exact (g.2.2 r hr).2.1
  · rw [h.2.2.1 21 hA]
    exact (g.2.2 r hr).2.2 c hc
theorem pm_in {N : Nat} {n c k : Nat} (hc : c < 4) (hk : k < 4) {cl : Nat → Nat} {x : Nat → Nat → Int32} (v : Int32) (b : Bool) (c13 : kS → Int32 → Int32 → Int32 → Int32 → Option (Unit × kS)) {σ : kS} (hT : pmV n cl x σ) : ∀ (d r fu : Nat), d + r = n → d < fu →
    kb_PM_part_25 N c13 fu σ (nI c) v (if b then 1 else 0) (nI k) (nI (tl cl (fun q => x q c) v b r k)) (nI r) = c13 (kI (kI σ 22 (σ.1 22 + nI (tl cl (fun q => x q c) v b n k))) 23 (σ.1 23 + nI (tl cl (fun q => x q c) v b n k * tl cl (fun q => x q c) v b n k))) (nI c) v (if b then 1 else 0) (nI (k + 1)) := by
  obtain ⟨hn, hsz, hrow⟩ := hT
  intro d
  induction d with
  | zero =>
    intro r fu hd hf
    obtain ⟨f', rfl⟩ : ∃ f', fu = f' + 1 := ⟨fu - 1, by omega⟩
    have hr : r = n := by omega
    subst hr
    rw [kb_PM_part_25, hsz, if_pos (by rw [nI_leI (by omega) (by omega)]; omega), nI_mul, nI_1]
    rfl
  | succ d ih =>
    intro r fu hd hf
    obtain ⟨f', rfl⟩ : ∃ f', fu = f' + 1 := ⟨fu - 1, by omega⟩
    obtain ⟨hcl, hc1, hx⟩ := hrow r (by omega)
    have ih2 := ih (r + 1) f' (by omega) (by omega)
    have e4 : 5 * nI r + 4 = nI (5 * r + 4) := by
      rw [show (5 : Int32) = nI 5 from rfl, show (4 : Int32) = nI 4 from rfl, nI_mul, nI_add]
    have e5 : 5 * nI r + nI c = nI (5 * r + c) := by
      rw [show (5 : Int32) = nI 5 from rfl, nI_mul, nI_add]
    rw [kb_PM_part_25, hsz, if_neg (by rw [nI_leI (by omega) (by omega)]; omega), e4, e5, mj_tab_nI (by omega) (by omega), Option.bind_some, hc1, mj_tab_nI (by omega) (by omega), Option.bind_some, hx c hc]
    unfold kb_PM_part_72 kb_PM_part_80 kb_PM_part_81
    simp only [nI_1, Int32.add_zero]
    rw [← ih2]
    have u1 : (1 : Int32) = (if (true : Bool) = true then 1 else 0) := rfl
    have u2 : ¬ (1 : Int32) = (if (false : Bool) = true then 1 else 0) := by decide
    have u3 : ¬ (0 : Int32) = (if (true : Bool) = true then 1 else 0) := by decide
    have u4 : (0 : Int32) = (if (false : Bool) = true then 1 else 0) := rfl
    by_cases e : cl r = k
    · rw [if_pos (by rw [e])]
      by_cases hv : x r c ≤ v
      · rw [if_neg (Int32.not_lt.mpr hv)]
        cases b with
        | true =>
          have t : tl cl (fun q => x q c) v true (r + 1) k = tl cl (fun q => x q c) v true r k + 1 := by simp [tl, e, hv]
          rw [if_pos u1, t]
        | false =>
          have t : tl cl (fun q => x q c) v false (r + 1) k = tl cl (fun q => x q c) v false r k := by simp [tl, e, hv]
          rw [if_neg u2, t]
      · rw [if_pos (Int32.not_le.mp hv)]
        cases b with
        | true =>
          have t : tl cl (fun q => x q c) v true (r + 1) k = tl cl (fun q => x q c) v true r k := by simp [tl, e, hv]
          rw [if_neg u3, t]
        | false =>
          have t : tl cl (fun q => x q c) v false (r + 1) k = tl cl (fun q => x q c) v false r k + 1 := by simp [tl, e, hv]
          rw [if_pos u4, t]
    · have t : tl cl (fun q => x q c) v b (r + 1) k = tl cl (fun q => x q c) v b r k := by simp [tl, e]
      rw [if_neg (fun q => e ((nI_eq (by omega) (by omega)).mp q)), t]
def pmg (F : Nat → Nat) (k : Nat) (s : kS) : kS := kI (kI s 22 (s.1 22 + nI (F k))) 23 (s.1 23 + nI (F k * F k))
theorem pmg_fr (F : Nat → Nat) (k : Nat) (s : kS) : kfr [22, 23] [] [] [] s (pmg F k s) := kfr_trans (kfr_I (by decide)) (kfr_I (by decide))
theorem pmg_22 (F : Nat → Nat) (k : Nat) (s : kS) : (pmg F k s).1 22 = s.1 22 + nI (F k) := rfl
theorem pmg_23 (F : Nat → Nat) (k : Nat) (s : kS) : (pmg F k s).1 23 = s.1 23 + nI (F k * F k) := rfl
theorem pm_part {N : Nat} (hN : 100 ≤ N) {n c : Nat} (hc : c < 4) {cl : Nat → Nat} {x : Nat → Nat → Int32} (v : Int32) (b : Bool) {σ : kS} (hT : pmV n cl x σ) :
    ∃ s, kf_PM_part N σ (nI c) v (if b then 1 else 0) = some ((), s) ∧ kfr [22, 23] [] [] [] σ s ∧ s.1 22 = nI (s4 (tl cl (fun q => x q c) v b n)) ∧ s.1 23 = nI (q4 (tl cl (fun q => x q c) v b n)) := by
  obtain ⟨M, rfl⟩ : ∃ M, N = M + 5 := ⟨N - 5, by omega⟩
  have hn := hT.1
  have st : ∀ (f k : Nat) (s : kS), k < 4 → pmV n cl x s → kb_PM_part_13 (M + 5) (f + 1) s (nI c) v (if b then 1 else 0) (nI k) = kb_PM_part_13 (M + 5) f (pmg (tl cl (fun q => x q c) v b n) k s) (nI c) v (if b then 1 else 0) (nI (k + 1)) := by
    intro f k s hk hs
    rw [kb_PM_part_13, if_neg (by rw [show (4 : Int32) = nI 4 from rfl, nI_leI (by omega) (by omega)]; omega)]
    exact pm_in (N := M + 5) hc hk v b _ hs n 0 (M + 5) (by omega) (by omega)
  generalize tl cl (fun q => x q c) v b n = F at st ⊢
  have f0 : kfr [22, 23] [] [] [] σ (kI (kI σ 22 0) 23 0) := kfr_trans (kfr_I (by decide)) (kfr_I (by decide))
  have f1 := kfr_trans f0 (pmg_fr F 0 _)
  have f2 := kfr_trans f1 (pmg_fr F 1 _)
  have f3 := kfr_trans f2 (pmg_fr F 2 _)
  have f4 := kfr_trans f3 (pmg_fr F 3 _)
  have v0 := pmV_fr f0 (by decide) (by decide) hT
  have v1 := pmV_fr f1 (by decide) (by decide) hT
  have v2 := pmV_fr f2 (by decide) (by decide) hT
  have v3 := pmV_fr f3 (by decide) (by decide) hT
  refine ⟨_, ?_, f4, ?_, ?_⟩
  · unfold kf_PM_part kb_PM_part_0
    show kb_PM_part_13 (M + 5) (M + 5) (kI (kI σ 22 0) 23 0) (nI c) v _ (nI 0) = _
    rw [st _ _ _ (by omega) v0, st _ _ _ (by omega) v1, st _ _ _ (by omega) v2, st _ _ _ (by omega) v3, kb_PM_part_13, if_pos (by rw [show (4 : Int32) = nI 4 from rfl, nI_leI (by omega) (by omega)]; omega)]
  · rw [pmg_22, pmg_22, pmg_22, pmg_22, show (kI (kI σ 22 0) 23 0).1 22 = nI 0 from rfl, nI_add, nI_add, nI_add, nI_add]
    unfold s4
    congr 1
    omega
  · rw [pmg_23, pmg_23, pmg_23, pmg_23, show (kI (kI σ 22 0) 23 0).1 23 = nI 0 from rfl, nI_add, nI_add, nI_add, nI_add]
    unfold q4
    congr 1
    omega
theorem pm_costs {N : Nat} (hN : 100 ≤ N) {n c : Nat} (hc : c < 4) {cl : Nat → Nat} {x : Nat → Nat → Int32} (v : Int32) {σ : kS} (hT : pmV n cl x σ) :
    ∃ s, kf_PM_costs N σ (nI c) v = some (bI (tcost n cl x c v ≠ none), s) ∧ kfr [22, 23] [0, 1] [] [] σ s ∧ s.2.1 0 = zL (pP (tcost n cl x c v)) ∧ s.2.1 1 = zL (pQ (tcost n cl x c v)) := by
  have hn := hT.1
  have hsum := s4_sum cl (fun q => x q c) v n (fun q hq => (hT.2.2 q hq).1)
  obtain ⟨s1, a1, a2, a3, a4⟩ := pm_part hN hc v true hT
  have hT1 : pmV n cl x s1 := pmV_fr a2 (by decide) (by decide) hT
  obtain ⟨s2, b1, b2, b3, b4⟩ := pm_part hN hc v false hT1
  unfold tcost
  generalize tl cl (fun q => x q c) v true n = lo at *
  generalize tl cl (fun q => x q c) v false n = hi at *
  have hw : kf_PM_least N s2 (zL 0) (zL 0) = some ((), kPQ s2 none) := kp_least hN s2 rg_0 rg_0
  have f12 : kfr [22, 23] [0, 1] [] [] σ s2 := kfr_mono (kfr_trans a2 b2) (by decide) (by decide) (by decide) (by decide)
  have hz := tc_none (lo := lo) (hi := hi) (by omega) (by omega)
  have ql : q4 lo ≤ 1600 := Nat.le_trans (q4_le lo) (sq_le (by omega))
  have qh : q4 hi ≤ 1600 := Nat.le_trans (q4_le hi) (sq_le (by omega))
  have e22 : (kPQ s2 none).1 22 = nI (s4 hi) := b3
  have e23 : (kPQ s2 none).1 23 = nI (q4 hi) := b4
  unfold kf_PM_costs kb_PM_costs_0
  rw [show (1 : Int32) = (if (true : Bool) = true then 1 else 0) from rfl, a1, kk_some, show (if (true : Bool) = true then (1 : Int32) else 0) = 1 from rfl]
  have b1' : kf_PM_part N s1 (nI c) v 0 = some ((), s2) := b1
  rw [b1', kk_some, zL_0, hw, kk_some, a3, a4, e22, e23, n2l (by omega), n2l (by omega), n2l (by omega), n2l (by omega)]
  unfold kb_PM_costs_46
  by_cases h0 : s4 lo = 0
  · have e : tc lo hi = none := hz.mpr (Or.inl h0)
    rw [if_pos ((zg_eq (rg_nat (by omega)) rg_0).mpr (by omega)), e]
    exact ⟨_, rfl, kfr_trans f12 (kfr_PQ (by decide) (by decide)), rfl, rfl⟩
  · rw [if_neg (fun q => by have := (zg_eq (rg_nat (by omega)) rg_0).mp q; omega)]
    by_cases h1 : s4 hi = 0
    · have e : tc lo hi = none := hz.mpr (Or.inr h1)
      rw [if_pos (by rw [h1, nI_0]), e]
      exact ⟨_, rfl, kfr_trans f12 (kfr_PQ (by decide) (by decide)), rfl, rfl⟩
    · rw [if_neg (nI_ne0 (by omega) (by omega))]
      have b1 := tnum_b (lo := lo) (hi := hi) (by omega) (by omega)
      have b2 := tden_b (lo := lo) (hi := hi) (by omega) (by omega)
      simp only [zL_mul, zL_sub, zL_add]
      have en' : ((s4 lo : Int) * s4 lo - q4 lo) * s4 hi + ((s4 hi : Int) * s4 hi - q4 hi) * s4 lo = tnum lo hi := rfl
      have ed' : (s4 lo : Int) * s4 hi * ((s4 lo : Int) + s4 hi) = tden lo hi := rfl
      rw [en', ed', kp_least hN _ ⟨by omega, by omega⟩ ⟨by omega, by omega⟩, kk_some, kPQ_kPQ]
      have e : tc lo hi = fo (tnum lo hi) (tden lo hi) := if_neg (by omega)
      have e2 : tc lo hi ≠ none := fun q => by have := hz.mp q; omega
      have e3 : bI (tc lo hi ≠ none) = 1 := if_pos e2
      rw [e3, ← e]
      exact ⟨_, rfl, kfr_trans f12 (kfr_PQ (by decide) (by decide)), rfl, rfl⟩
