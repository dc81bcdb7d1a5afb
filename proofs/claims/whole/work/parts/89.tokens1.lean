/-! TOKENS, 1: text, merges told -/
/-- the text x of n tokens, k merges of a and b with their letters c; every token is a letter or a merge made before -/
def tkV (n k : Nat) (x a b : Nat → Nat) (c : Nat → Int32) (τ : kS) : Prop := n ≤ 200 ∧ k ≤ 60 ∧ τ.1 5 = nI n ∧ τ.1 6 = nI k ∧ (∀ i, i < n → τ.2.2.1 0 i = nI (x i)) ∧ ∀ j, j < k → τ.2.2.1 1 j = nI (a j) ∧ τ.2.2.1 2 j = nI (b j) ∧ τ.2.2.1 3 j = c j
def ptV (n k : Nat) (x a b : Nat → Nat) (σ : kS) : Prop := n ≤ 200 ∧ k ≤ 60 ∧ σ.1 31 = nI n ∧ σ.1 33 = nI k ∧ (∀ i, i < n → σ.2.2.1 32 i = nI (x i)) ∧ ∀ j, j < k → σ.2.2.1 34 j = nI (a j) ∧ σ.2.2.1 35 j = nI (b j)
def lt (c : Nat → Int32) (t : Nat) : Int32 := if t < 26 then 1 else c (t - 26)
def tkG (n k : Nat) (x a b : Nat → Nat) (c : Nat → Int32) : Prop := (∀ i, i < n → x i < 26 + k) ∧ ∀ j, j < k → a j < 26 + j ∧ b j < 26 + j ∧ c j = lt c (a j) + lt c (b j)
def R_Tk (τ σ : kS) : Prop := ∃ (n k : Nat) (x a b : Nat → Nat) (c : Nat → Int32), tkV n k x a b c τ ∧ ptV n k x a b σ ∧ tkG n k x a b c
theorem ptV_fr {n k : Nat} {x a b : Nat → Nat} {σ s : kS} {I L A B : List Nat} (h : kfr I L A B σ s) (h1 : 31 ∉ I) (h2 : 33 ∉ I) (h3 : 32 ∉ A) (h4 : 34 ∉ A) (h5 : 35 ∉ A) (g : ptV n k x a b σ) : ptV n k x a b s := by
  obtain ⟨g1, g2, g3, g4, g5, g6⟩ := g
  refine ⟨g1, g2, (h.1 31 h1).trans g3, (h.1 33 h2).trans g4, fun i hi => ?_, fun j hj => ?_⟩
  · rw [h.2.2.1 32 h3]
    exact g5 i hi
  · rw [h.2.2.1 34 h4, h.2.2.1 35 h5]
    exact g6 j hj
theorem R_Tk_fr {τ σ s : kS} {I L A B : List Nat} (h : kfr I L A B σ s) (h1 : 31 ∉ I) (h2 : 33 ∉ I) (h3 : 32 ∉ A) (h4 : 34 ∉ A) (h5 : 35 ∉ A) (g : R_Tk τ σ) : R_Tk τ s := by
  obtain ⟨n, k, x, a, b, c, g1, g2, g3⟩ := g
  exact ⟨n, k, x, a, b, c, g1, ptV_fr h h1 h2 h3 h4 h5 g2, g3⟩
abbrev fTk (σ s : kS) : Prop := kfr [31, 33] [] [32, 34, 35, 36] [] σ s
theorem op_empty (N : Nat) {τ σ : kS} (h : R_Tk τ σ) : ∃ r τ2 s, kf_Tk_dropText N τ = some (r, τ2) ∧ kf_PM_empty N σ = some (r, s) ∧ R_Tk τ2 s ∧ fTk σ s := by
  obtain ⟨n, k, x, a, b, c, g1, g2, g3⟩ := h
  refine ⟨nI n, kI τ 5 0, kI σ 31 0, ?_, ?_, ⟨0, k, x, a, b, c, ⟨by omega, g1.2.1, rfl, g1.2.2.2.1, fun i hi => absurd hi (by omega), g1.2.2.2.2.2⟩, ⟨by omega, g2.2.1, rfl, g2.2.2.2.1, fun i hi => absurd hi (by omega), g2.2.2.2.2.2⟩, ⟨fun i hi => absurd hi (by omega), g3.2⟩⟩, kfr_I (by decide)⟩
  · unfold kf_Tk_dropText kb_Tk_dropText_0 kk_let
    rw [g1.2.2.1]
  · unfold kf_PM_empty kb_PM_empty_0 kk_let
    rw [g2.2.2.1]
theorem nI_m1 {n : Nat} (hn : n < 2 ^ 30) : (nI n - 1).toInt64 = zL ((n : Int) - 1) := by
  by_cases h0 : n = 0
  · subst h0
    rfl
  · rw [show nI n - 1 = nI (n - 1) from nI_sub (show 1 ≤ n by omega), n2l (by omega)]
    congr 1
    omega
theorem op_token (N : Nat) {τ σ : kS} (h : R_Tk τ σ) (v : Int32) : ∃ r, kf_Tk_tokenAt N τ v = some (r, τ) ∧ kf_PM_token N σ v = some (r, σ) := by
  obtain ⟨n, k, x, a, b, c, ⟨hn, hk, h5, h6, hx, hab⟩, ⟨_, _, p1, p2, p3, p4⟩, g3⟩ := h
  have e0 : (0 : Int32).toInt = 0 := by decide
  have k1 : v < 0 ↔ v.toInt < 0 := by rw [i32lt, e0]
  have k2 : v < nI n ↔ v.toInt < n := by rw [i32lt, nI_toInt (by omega)]
  unfold kf_Tk_tokenAt kb_Tk_tokenAt_0 kb_Tk_tokenAt_12 kb_Tk_tokenAt_23 kf_PM_token kb_PM_token_0 kb_PM_token_27
  rw [h5, p1, nI_m1 (by omega), show (0 : Int64) = zL 0 from rfl, pm_isIn N v rg_0 ⟨by omega, by omega⟩, Option.bind_some]
  by_cases hv : 0 ≤ v.toInt ∧ v.toInt ≤ (n : Int) - 1
  · rw [if_neg (c := bI _ = 0) (fun q => bI_0.mp q hv), if_neg (fun q => by have := k1.mp q; omega), if_pos (k2.mpr (by omega))]
    obtain ⟨i, hi, rfl⟩ := nI_ofR (v := v) (m := n - 1) hv.1 (by omega)
    have h0 := hv.2
    rw [nI_toInt (by omega)] at h0
    rw [mj_tab_nI (by omega) (by omega), mj_tab_nI (by omega) (by omega), Option.bind_some, Option.bind_some, hx i (by omega), p3 i (by omega)]
    exact ⟨_, rfl, rfl⟩
  · rw [if_pos (c := bI _ = 0) (bI_0.mpr hv)]
    by_cases h1 : v.toInt < 0
    · rw [if_pos (k1.mpr h1)]
      exact ⟨_, rfl, rfl⟩
    · rw [if_neg (fun q => h1 (k1.mp q)), if_neg (fun q => by have := k2.mp q; omega)]
      exact ⟨_, rfl, rfl⟩
theorem pm_mloop {N : Nat} {n k : Nat} {x a b : Nat → Nat} {c : Nat → Int32} (hG : tkG n k x a b c) {i : Nat} (hi : i < k) : ∀ (d j fu : Nat) (σ : kS), ptV n k x a b σ → d + j = i + 1 → d < fu → (∀ q, q < j → σ.2.2.1 36 q = c q) → ∃ s, kb_PM_merged_57 N fu σ (nI i) (nI j) = some (c i, s) ∧ kfr [] [] [36] [] σ s := by
  intro d
  induction d with
  | zero =>
    intro j fu σ hP hd hf h
    obtain ⟨f', rfl⟩ : ∃ f', fu = f' + 1 := ⟨fu - 1, by omega⟩
    have hk := hP.2.1
    refine ⟨σ, ?_, kfr_refl _ _ _ _ _⟩
    rw [kb_PM_merged_57, if_pos (by rw [nI_ltI (by omega) (by omega)]; omega), mj_tab_nI (by omega) (by omega), Option.bind_some, h i (by omega)]
  | succ d ih =>
    intro j fu σ hP hd hf h
    obtain ⟨f', rfl⟩ : ∃ f', fu = f' + 1 := ⟨fu - 1, by omega⟩
    have hk := hP.2.1
    obtain ⟨ha, hb⟩ := hP.2.2.2.2.2 j (by omega)
    obtain ⟨ga, gb, gc⟩ := hG.2 j (by omega)
    have fin : ∃ s, kb_PM_merged_57 N f' (kA σ 36 j (lt c (a j) + lt c (b j))) (nI i) (nI (j + 1)) = some (c i, s) ∧ kfr [] [] [36] [] σ s := by
      have fr : kfr [] [] [36] [] σ (kA σ 36 j (lt c (a j) + lt c (b j))) := kfr_A (by decide)
      obtain ⟨s, k1, k2⟩ := ih (j + 1) f' (kA σ 36 j (lt c (a j) + lt c (b j))) (ptV_fr fr (by decide) (by decide) (by decide) (by decide) (by decide) hP) (by omega) (by omega) (fun q hq => by
        rw [kA_3]
        by_cases e : q = j
        · rw [if_pos ⟨rfl, e⟩, e, gc]
        · rw [if_neg (fun w => e w.2)]
          exact h q (by omega))
      exact ⟨s, k1, kfr_trans fr k2⟩
    have hlt : ∀ t : Nat, ¬ t < 26 → lt c t = c (t - 26) := fun t q => if_neg q
    have hlt1 : ∀ t : Nat, t < 26 → lt c t = 1 := fun t q => if_pos q
    have e26 : ∀ t : Nat, t < 100 → ((26 : Int32) ≤ nI t ↔ 26 ≤ t) := fun t ht => by rw [show (26 : Int32) = nI 26 from rfl, nI_leI (by omega) (by omega)]
    have es : ∀ t : Nat, 26 ≤ t → nI t - 26 = nI (t - 26) := fun t ht => nI_sub ht
    rw [kb_PM_merged_57, if_neg (by rw [nI_ltI (by omega) (by omega)]; omega)]
    unfold kb_PM_merged_96 kb_PM_merged_125 kk_let
    simp only [mj_tab_nI (f := σ.2.2.1 34) (n := 60) (show j < 60 by omega) (by omega), mj_tab_nI (f := σ.2.2.1 35) (n := 60) (show j < 60 by omega) (by omega), Option.bind_some, ha, hb, nI_1, mj_gd_nI (show j < 60 by omega) (show 60 < 2 ^ 31 by omega), nI_clamp (show j < 2 ^ 31 by omega)]
    by_cases h1 : a j < 26
    · rw [if_neg (fun q => by have := (e26 _ (by omega)).mp q; omega)]
      rw [hlt1 _ h1] at fin
      by_cases h2 : b j < 26
      · rw [if_neg (fun q => by have := (e26 _ (by omega)).mp q; omega)]
        rw [hlt1 _ h2] at fin
        exact fin
      · rw [if_pos ((e26 _ (by omega)).mpr (by omega)), es _ (by omega), mj_tab_nI (by omega) (by omega), Option.bind_some, h _ (by omega)]
        rw [hlt _ h2] at fin
        exact fin
    · rw [if_pos ((e26 _ (by omega)).mpr (by omega)), es _ (by omega), mj_tab_nI (by omega) (by omega), Option.bind_some, h _ (by omega)]
      rw [hlt _ h1] at fin
      by_cases h2 : b j < 26
      · rw [if_neg (fun q => by have := (e26 _ (by omega)).mp q; omega)]
        rw [hlt1 _ h2] at fin
        exact fin
      · rw [if_pos ((e26 _ (by omega)).mpr (by omega)), es _ (by omega), mj_tab_nI (by omega) (by omega), Option.bind_some, h _ (by omega)]
        rw [hlt _ h2] at fin
        exact fin
