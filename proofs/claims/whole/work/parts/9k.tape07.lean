/-! THE TAPE, 7: the class reckons a tape up to a node, and sums its slopes -/
def xV (X : tX) (V : tF) : Prop := ∀ i, i < x_n X → x_o X i < 16 → ∀ c, V i c = ev (x_o X i) (x_t X i) (fA X V i c) (fB X V i c)
def cV (X : tX) (V : tF) (fr : Nat) (τ : tS) : Prop := ∀ j, j < x_n X → (j < fr ∨ x_o X j = 16) → vC X V τ j
theorem v_in (v : Int32) {n : Nat} (hn : n < 2 ^ 30) : (∃ i, i < n ∧ v = nI i) ∨ ¬ (0 ≤ v.toInt ∧ v.toInt ≤ (n : Int) - 1) := by
  by_cases h : 0 ≤ v.toInt ∧ v.toInt ≤ (n : Int) - 1
  · obtain ⟨c, h1, h2⟩ := nI_ofR (v := v) (m := n - 1) h.1 (by omega)
    exact Or.inl ⟨c, by omega, h2⟩
  · exact Or.inr h
theorem cT_in {X : tX} {ρ : tR} {τ : tS} (h : cSt X ρ τ) (ok : x_ok X) (N : Nat) {i : Nat} (hi : i < x_n X) : kf_Tp_find N ρ τ (nI i) = some (some i, τ) := by
  have hn := ok.1
  unfold kf_Tp_find kb_Tp_find_0 kb_Tp_find_22
  rw [if_neg (by rw [show (0 : Int32) = nI 0 from rfl, nI_ltI (by omega) (by omega)]; omega), h.2.1, if_pos (by rw [nI_ltI (by omega) (by omega)]; exact hi), h.1, tn_nI hi hn, Option.bind_some]
theorem cT_out {X : tX} {ρ : tR} {τ : tS} (h : cSt X ρ τ) (ok : x_ok X) (N : Nat) {v : Int32} (hv : ¬ (0 ≤ v.toInt ∧ v.toInt ≤ (x_n X : Int) - 1)) : kf_Tp_find N ρ τ v = some (none, τ) := by
  have hn := ok.1
  unfold kf_Tp_find kb_Tp_find_0 kb_Tp_find_12 kb_Tp_find_22
  have e0 : (0 : Int32).toInt = 0 := by decide
  by_cases h1 : v < 0
  · rw [if_pos h1]
  · rw [if_neg h1, h.2.1, if_neg]
    intro q
    rw [i32lt, e0] at h1
    rw [i32lt, nI_toInt (by omega)] at q
    omega
theorem tI_1 (τ : tS) (k : Nat) (v : Int32) (j : Nat) : (tI τ k v).1 j = if j = k then v else τ.1 j := upd_at _ _ _ _
theorem cT_rl {X : tX} {ρ : tR} {V : tF} (ok : x_ok X) {N : Nat} (hN : 300 ≤ N) (gV : gF V) (xv : xV X V) {m fr : Nat} (hm : m < x_n X) : ∀ d k fu τ, d = m + 1 - k → d < fu → k ≤ x_n X → cSt X ρ τ → τ.1 3 = nI fr → fr ≤ x_n X → cV X V k τ → ∃ τ', kb_Tp_reckonUpTo_5 N ρ fu τ (nI m) (nI k) = some ((), τ') ∧ cSt X ρ τ' ∧ τ'.1 3 = nI (max fr (m + 1)) ∧ cV X V (max k (m + 1)) τ' ∧ τ'.2.1 = τ.2.1 ∧ τ'.2.2.1 = τ.2.2.1 := by
  have hn := ok.1
  intro d
  induction d with
  | zero =>
    intro k fu τ hd hf hk hc h3 hfr cv
    obtain ⟨f', rfl⟩ : ∃ f', fu = f' + 1 := ⟨fu - 1, by omega⟩
    refine ⟨tI τ 3 (nI (max fr (m + 1))), ?_, ?_, ?_, ?_, rfl, rfl⟩
    · rw [kb_Tp_reckonUpTo_5, if_pos (by rw [nI_ltI (by omega) (by omega)]; omega)]
      unfold kb_Tp_reckonUpTo_34
      rw [h3, nI_1, kf_max N (by omega) (by omega), Option.bind_some]
      rfl
    · refine ⟨hc.1, ?_, hc.2.2⟩
      rw [tI_1, if_neg (by decide)]
      exact hc.2.1
    · rw [tI_1, if_pos rfl]
    · rw [Nat.max_eq_left (by omega)]
      exact cv
  | succ d ih =>
    intro k fu τ hd hf hk hc h3 hfr cv
    obtain ⟨f', rfl⟩ : ∃ f', fu = f' + 1 := ⟨fu - 1, by omega⟩
    have hkn : k < x_n X := by omega
    have e : ∃ τ1, kf_No_walk N ρ τ k 0 = some ((), τ1) ∧ tsm τ τ1 ∧ cV X V (k + 1) τ1 := by
      by_cases ho : x_o X k = 16
      · refine ⟨τ, cn_leaf hc hkn N ho 0, tsm_refl _, fun j hj w => ?_⟩
        by_cases ej : j = k
        · subst ej
          exact cv j hj (Or.inr ho)
        · exact cv j hj (by omega)
      · have ho' : x_o X k < 16 := by
          have := (ok.2 k hkn).1
          omega
        obtain ⟨τ1, q1, q2, q3, q4⟩ := cn_reck hc ok hkn (fun j hj => cv j (by omega) (Or.inl hj)) hN gV ho' (xv k hkn ho')
        refine ⟨τ1, q1, q2, fun j hj w => ?_⟩
        by_cases ej : j = k
        · subst ej
          exact q4
        · intro c hc'
          rw [q3 j 9 (fun w => ej w.1)]
          exact cv j hj (by omega) c hc'
    obtain ⟨τ1, q1, q2, q3⟩ := e
    obtain ⟨τ', p1, p2, p3, p4, p5, p6⟩ := ih (k + 1) f' τ1 (by omega) (by omega) (by omega) (cSt_m hc q2) (by rw [q2.1]; exact h3) hfr q3
    refine ⟨τ', ?_, p2, p3, ?_, p5.trans q2.2.1, p6.trans q2.2.2.1⟩
    · rw [kb_Tp_reckonUpTo_5, if_neg (by rw [nI_ltI (by omega) (by omega)]; omega), hc.2.1, if_neg (by rw [nI_leI (by omega) (by omega)]; omega), hc.1, tn_nI hkn hn, Option.bind_some, Option.bind_some, q1, kk_some, nI_1]
      exact p1
    · rw [show max k (m + 1) = max (k + 1) (m + 1) by omega]
      exact p4
theorem cT_reck {X : tX} {ρ : tR} {V : tF} {τ : tS} (ok : x_ok X) {N : Nat} (hN : 300 ≤ N) (gV : gF V) (xv : xV X V) {m fr : Nat} (hm : m < x_n X) (hc : cSt X ρ τ) (h3 : τ.1 3 = nI fr) (hfr : fr ≤ x_n X) (cv : cV X V fr τ) : ∃ τ', kf_Tp_reckonUpTo N ρ τ (nI m) = some ((), τ') ∧ cSt X ρ τ' ∧ τ'.1 3 = nI (max fr (m + 1)) ∧ cV X V (max fr (m + 1)) τ' ∧ τ'.2.1 = τ.2.1 ∧ τ'.2.2.1 = τ.2.2.1 := by
  have hn := ok.1
  obtain ⟨τ', q⟩ := cT_rl (ρ := ρ) ok hN gV xv (fr := fr) hm (m + 1 - fr) fr N τ rfl (by omega) hfr hc h3 hfr cv
  refine ⟨τ', ?_⟩
  unfold kf_Tp_reckonUpTo kb_Tp_reckonUpTo_0
  rw [h3]
  exact q
/-! the sums at the start -/
def S0 (m : Nat) : tF := fun i _ => if i = m then some 1 else some 0
theorem gF_S0 (m : Nat) : gF (S0 m) := fun i c => fG_ite fG_O fG_Z
theorem cJ_fill {X : tX} {ρ : tR} {τ : tS} (ok : x_ok X) {N : Nat} (hN : 300 ≤ N) (hc : cSt X ρ τ) {j : Nat} (hj : j < x_n X) (x : Int64) : ∃ τ', kf_Ja_fill1_A10 N ρ τ j x = some ((), τ') ∧ tsm τ τ' ∧ (∀ i g, ¬ (i = j ∧ g = 10) → τ'.2.2.2.2 i g = τ.2.2.2.2 i g) ∧ ∀ c, c < x_c X j → τ'.2.2.2.2 j 10 c = x := by
  have cb := (xc_b ok hj).2
  have le := cS_len hc ok hj
  have lp : ∀ d c fu τ1, d + c = x_c X j → d < fu → tsm τ τ1 → (∀ i g, ¬ (i = j ∧ g = 10) → τ1.2.2.2.2 i g = τ.2.2.2.2 i g) → (∀ q, q < c → τ1.2.2.2.2 j 10 q = x) → ∃ τ', kb_Ja_fill1_A10_6 N ρ fu τ1 j x (nI c) (nI (x_c X j)) = some ((), τ') ∧ tsm τ τ' ∧ (∀ i g, ¬ (i = j ∧ g = 10) → τ'.2.2.2.2 i g = τ.2.2.2.2 i g) ∧ ∀ c, c < x_c X j → τ'.2.2.2.2 j 10 c = x := by
    intro d
    induction d with
    | zero =>
      intro c fu τ1 hd hf h1 h2 h3
      obtain ⟨f', rfl⟩ : ∃ f', fu = f' + 1 := ⟨fu - 1, by omega⟩
      have : c = x_c X j := by omega
      subst this
      refine ⟨τ1, ?_, h1, h2, h3⟩
      rw [kb_Ja_fill1_A10_6, if_pos (Int32.le_refl _)]
    | succ d ih =>
      intro c fu τ1 hd hf h1 h2 h3
      obtain ⟨f', rfl⟩ : ∃ f', fu = f' + 1 := ⟨fu - 1, by omega⟩
      obtain ⟨τ', q⟩ := ih (c + 1) f' (tV τ1 j 10 c x) (by omega) (by omega) (tsm_trans h1 (tsm_V _ _ _ _ _)) (fun i g w => by rw [tV_ne _ _ _ _ _ w]; exact h2 i g w) (fun q hq => by
        rw [tV_5]
        by_cases e : q = c
        · rw [if_pos ⟨rfl, rfl, e⟩]
        · rw [if_neg (fun w => e w.2.2)]
          exact h3 q (by omega))
      refine ⟨τ', ?_⟩
      rw [kb_Ja_fill1_A10_6, if_neg (by rw [nI_leI (by omega) (by omega)]; omega), le, mj_gd_nI (by omega) (by omega), nI_clamp (by omega), kk_letE, nI_1]
      exact q
  obtain ⟨τ', q⟩ := lp (x_c X j) 0 N τ (by omega) (by omega) (tsm_refl _) (fun _ _ _ => rfl) (fun q hq => absurd hq (by omega))
  refine ⟨τ', ?_⟩
  unfold kf_Ja_fill1_A10 kb_Ja_fill1_A10_0
  rw [le]
  exact q
theorem nI_dn {i : Nat} (h : 1 ≤ i) : nI i + (-1) = nI (i - 1) := by
  rw [← nI_sub h]
  show nI i + (-1) = nI i - 1
  rw [Int32.sub_eq_add_neg]
theorem cT_dn {X : tX} {ρ : tR} {V : tF} (ok : x_ok X) {N : Nat} (hN : 300 ≤ N) (gV : gF V) {b : Nat} : ∀ d i fu τ S, d + b = i → i < x_n X → d < fu → cSt X ρ τ → (∀ j, j < i → vC X V τ j) → gF S → sC X S τ → ∃ τ', kb_Tp_sumSlopes_42 N ρ fu τ (nI b) (nI i) = some ((), τ') ∧ tsm τ τ' ∧ (∀ j, τ'.2.2.2.2 j 9 = τ.2.2.2.2 j 9) ∧ sC X (gsl X V d i S) τ' := by
  have hn := ok.1
  intro d
  induction d with
  | zero =>
    intro i fu τ S hd hi hf hc hv gS hs
    obtain ⟨f', rfl⟩ : ∃ f', fu = f' + 1 := ⟨fu - 1, by omega⟩
    refine ⟨τ, ?_, tsm_refl _, fun _ => rfl, hs⟩
    rw [kb_Tp_sumSlopes_42, if_pos (by rw [nI_leI (by omega) (by omega)]; omega)]
  | succ d ih =>
    intro i fu τ S hd hi hf hc hv gS hs
    obtain ⟨f', rfl⟩ : ∃ f', fu = f' + 1 := ⟨fu - 1, by omega⟩
    have e : ∃ τ1, kf_No_walk N ρ τ i 1 = some ((), τ1) ∧ tsm τ τ1 ∧ (∀ j, τ1.2.2.2.2 j 9 = τ.2.2.2.2 j 9) ∧ gF (if x_o X i < 16 then gnd X V i S (x_c X i) else S) ∧ sC X (if x_o X i < 16 then gnd X V i S (x_c X i) else S) τ1 := by
      by_cases ho : x_o X i < 16
      · rw [if_pos ho]
        obtain ⟨τ1, q1, q2, q3, q4⟩ := cn_down ok hi hN gV ho hc hv gS hs
        exact ⟨τ1, q1, q2, q3, gF_gnd gS _, q4⟩
      · rw [if_neg ho]
        have := (ok.2 i hi).1
        exact ⟨τ, cn_leaf hc hi N (by omega) 1, tsm_refl _, fun _ => rfl, gS, hs⟩
    obtain ⟨τ1, q1, q2, q3, q5, q4⟩ := e
    obtain ⟨τ', p1, p2, p3, p4⟩ := ih (i - 1) f' τ1 _ (by omega) (by omega) (by omega) (cSt_m hc q2) (fun j hj c hc' => by rw [q3]; exact hv j (by omega) c hc') q5 q4
    refine ⟨τ', ?_, tsm_trans q2 p2, fun j => (p3 j).trans (q3 j), p4⟩
    rw [kb_Tp_sumSlopes_42, if_neg (by rw [nI_leI (by omega) (by omega)]; omega), hc.1, tn_nI hi hn, Option.bind_some, Option.bind_some, q1, kk_some, nI_dn (by omega)]
    exact p1
theorem cT_sum {X : tX} {ρ : tR} {V : tF} {τ : tS} (ok : x_ok X) {N : Nat} (hN : 300 ≤ N) (gV : gF V) {m b : Nat} (hm : m < x_n X) (hb : b ≤ m) (hc : cSt X ρ τ) (hv : ∀ j, j ≤ m → vC X V τ j) : ∃ τ', kf_Tp_sumSlopes N ρ τ (nI m) (nI b) = some ((), τ') ∧ tsm τ τ' ∧ (∀ j, τ'.2.2.2.2 j 9 = τ.2.2.2.2 j 9) ∧ sC X (gsl X V (m - b) m (S0 m)) τ' := by
  have hn := ok.1
  have lp : ∀ d k fu τ1, d + k = x_n X → d < fu → tsm τ τ1 → (∀ j, τ1.2.2.2.2 j 9 = τ.2.2.2.2 j 9) → (∀ j, j < k → ∀ c, c < x_c X j → τ1.2.2.2.2 j 10 c = en (S0 m j c)) → ∃ τ', kb_Tp_sumSlopes_2 N ρ fu τ1 (nI m) (nI b) (nI k) = some ((), τ') ∧ tsm τ τ' ∧ (∀ j, τ'.2.2.2.2 j 9 = τ.2.2.2.2 j 9) ∧ sC X (gsl X V (m - b) m (S0 m)) τ' := by
    intro d
    induction d with
    | zero =>
      intro k fu τ1 hd hf h1 h2 h3
      obtain ⟨f', rfl⟩ : ∃ f', fu = f' + 1 := ⟨fu - 1, by omega⟩
      have hc1 := cSt_m hc h1
      have hk : k = x_n X := by omega
      subst hk
      obtain ⟨τ', q1, q2, q3, q4⟩ := cT_dn (ρ := ρ) ok hN gV (b := b) (m - b) m N τ1 (S0 m) (by omega) hm (by omega) hc1 (fun j hj c hc' => by rw [h2]; exact hv j (by omega) c hc') (gF_S0 m) h3
      refine ⟨τ', ?_, tsm_trans h1 q2, fun j => (q3 j).trans (h2 j), q4⟩
      rw [kb_Tp_sumSlopes_2, hc1.2.1, if_pos (Int32.le_refl _)]
      exact q1
    | succ d ih =>
      intro k fu τ1 hd hf h1 h2 h3
      obtain ⟨f', rfl⟩ : ∃ f', fu = f' + 1 := ⟨fu - 1, by omega⟩
      have hc1 := cSt_m hc h1
      obtain ⟨τ2, q1, q2, q3, q4⟩ := cJ_fill ok hN hc1 (j := k) (by omega) (en (if k = m then some 1 else some 0))
      obtain ⟨τ', p⟩ := ih (k + 1) f' τ2 (by omega) (by omega) (tsm_trans h1 q2) (fun j => (q3 j 9 (fun w => absurd w.2 (by decide))).trans (h2 j)) (fun j hj c hc' => by
        by_cases e : j = k
        · subst e
          exact q4 c hc'
        · rw [q3 j 10 (fun w => e w.1)]
          exact h3 j (by omega) c hc')
      refine ⟨τ', ?_⟩
      rw [kb_Tp_sumSlopes_2, hc1.2.1, if_neg (by rw [nI_leI (by omega) (by omega)]; omega), hc.1, tn_nI (by omega) hn, Option.bind_some, Option.bind_some]
      unfold kb_Tp_sumSlopes_31
      by_cases e : k = m
      · rw [if_pos e, en_O] at q1
        rw [if_pos (by rw [e]), q1, kk_some, nI_1]
        exact p
      · rw [if_neg e, en_Z] at q1
        rw [if_neg (fun q => e ((nI_eq (by omega) (by omega)).mp q)), q1, kk_some, nI_1]
        exact p
  obtain ⟨τ', q⟩ := lp (x_n X) 0 N τ (by omega) (by omega) (tsm_refl _) (fun _ => rfl) (fun j hj => absurd hj (by omega))
  exact ⟨τ', q⟩
