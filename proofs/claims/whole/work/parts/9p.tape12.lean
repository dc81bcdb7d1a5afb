/-! THE TAPE, 11: the reference reckons a tape up to a node -/
def hR (f g : Nat) (X : tX) (V : tF) (σ : kS) (j : Nat) : Prop := ∀ c, c < x_c X j → σ.2.2.2 f (64 * j + c) = zL (pP (V j c)) ∧ σ.2.2.2 g (64 * j + c) = zL (pQ (V j c))
def wr2 (σ : kS) (f g k : Nat) (x : Option Rat) : kS := kB (kB σ f k (zL (pP x))) g k (zL (pQ x))
theorem wr2_f {σ : kS} {f g k : Nat} {x : Option Rat} (h : f ≠ g) (j : Nat) : (wr2 σ f g k x).2.2.2 f j = if j = k then zL (pP x) else σ.2.2.2 f j := by
  unfold wr2
  rw [kB_4, if_neg (fun w => h w.1), kB_4]
  by_cases e : j = k
  · rw [if_pos ⟨rfl, e⟩, if_pos e]
  · rw [if_neg (fun w => e w.2), if_neg e]
theorem wr2_g {σ : kS} {f g k : Nat} {x : Option Rat} (h : f ≠ g) (j : Nat) : (wr2 σ f g k x).2.2.2 g j = if j = k then zL (pQ x) else σ.2.2.2 g j := by
  unfold wr2
  rw [kB_4]
  by_cases e : j = k
  · rw [if_pos ⟨rfl, e⟩, if_pos e]
  · rw [if_neg (fun w => e w.2), if_neg e, kB_4, if_neg (fun w => e w.2)]
theorem wr2_o {σ : kS} {f g k : Nat} {x : Option Rat} {e : Nat} (h1 : e ≠ f) (h2 : e ≠ g) : (wr2 σ f g k x).2.2.2 e = σ.2.2.2 e := by
  unfold wr2
  rw [kB_ne _ _ _ _ h2, kB_ne _ _ _ _ h1]
theorem wr2_1 (σ : kS) (f g k : Nat) (x : Option Rat) : (wr2 σ f g k x).1 = σ.1 ∧ (wr2 σ f g k x).2.1 = σ.2.1 ∧ (wr2 σ f g k x).2.2.1 = σ.2.2.1 := ⟨rfl, rfl, rfl⟩
theorem hR_ne {f g : Nat} (hfg : f ≠ g) {X : tX} (ok : x_ok X) {V : tF} {σ : kS} {i j r : Nat} {x : Option Rat} (hi : i < x_n X) (hj : j < x_n X) (hr : r < x_c X i) (h : ∀ c, c < x_c X j → (j = i ∧ c = r → x = V j c) ∧ (¬ (j = i ∧ c = r) → σ.2.2.2 f (64 * j + c) = zL (pP (V j c)) ∧ σ.2.2.2 g (64 * j + c) = zL (pQ (V j c)))) : hR f g X V (wr2 σ f g (64 * i + r) x) j := by
  intro c hc
  have c1 := (xc_b ok hi).2
  have c2 := (xc_b ok hj).2
  rw [wr2_f hfg, wr2_g hfg]
  obtain ⟨h1, h2⟩ := h c hc
  by_cases e : j = i ∧ c = r
  · rw [if_pos (by rw [e.1, e.2]), if_pos (by rw [e.1, e.2]), h1 e]
    exact ⟨rfl, rfl⟩
  · have ne : ¬ 64 * j + c = 64 * i + r := by omega
    rw [if_neg ne, if_neg ne]
    exact h2 e
theorem kfr_wr2 {I L A B : List Nat} {σ : kS} {f g k : Nat} {x : Option Rat} (hf : f ∈ B) (hg : g ∈ B) : kfr I L A B σ (wr2 σ f g k x) := kfr_trans (kfr_B hf) (kfr_B hg)
abbrev fRk (σ s : kS) : Prop := kfr [] [0, 1] [] [9, 10] σ s
theorem rSt_rk {X : tX} {σ s : kS} (h : fRk σ s) (g : rSt X σ) : rSt X s := rSt_fr h (by decide) (by decide) (by decide) (by decide) (by decide) (by decide) g
theorem rT_row {X : tX} {V : tF} (ok : x_ok X) {i : Nat} (hi : i < x_n X) (ho : x_o X i < 16) {N : Nat} (hN : 300 ≤ N) (gV : gF V) (xv : xV X V) (m : Nat) : ∀ d r fu s, d + r = x_c X i → d < fu → rSt X s → (∀ j, j < x_n X → (j < i ∨ x_o X j = 16) → vR X V s j) → (∀ c, c < r → s.2.2.2 9 (64 * i + c) = zL (pP (V i c)) ∧ s.2.2.2 10 (64 * i + c) = zL (pQ (V i c))) → ∃ s', (∀ c2, kb_PM_reckon_30 N c2 fu s (nI m) (nI i) (nI (x_c X i)) (nI r) = c2 s' (nI m) (nI (i + 1))) ∧ fRk s s' ∧ ∀ j, j < x_n X → (j < i + 1 ∨ x_o X j = 16) → vR X V s' j := by
  have hn := ok.1
  have cb := (xc_b ok hi).2
  intro d
  induction d with
  | zero =>
    intro r fu s hd hf hs hv hc
    obtain ⟨f', rfl⟩ : ∃ f', fu = f' + 1 := ⟨fu - 1, by omega⟩
    have : r = x_c X i := by omega
    subst this
    refine ⟨s, fun c2 => ?_, kfr_refl _ _ _ _ _, fun j hj w => ?_⟩
    · rw [kb_PM_reckon_30, if_pos (Int32.le_refl _)]
      unfold kb_PM_reckon_81
      rw [nI_1]
    · by_cases e : j = i
      · subst e
        exact hc
      · exact hv j hj (by omega)
  | succ d ih =>
    intro r fu s hd hf hs hv hc
    obtain ⟨f', rfl⟩ : ∃ f', fu = f' + 1 := ⟨fu - 1, by omega⟩
    have hr : r < x_c X i := by omega
    have ce := rn_cell hs ok hi hr (fun j hj => hv j (by omega) (Or.inl hj)) hN gV ho
    rw [← xv i hi ho r] at ce
    have f1 : fRk s (wr2 (kPQ s (V i r)) 9 10 (64 * i + r) (V i r)) := kfr_trans (kfr_PQ (by decide) (by decide)) (kfr_wr2 (by decide) (by decide))
    obtain ⟨s', q1, q2, q3⟩ := ih (r + 1) f' (wr2 (kPQ s (V i r)) 9 10 (64 * i + r) (V i r)) (by omega) (by omega) (rSt_rk f1 hs) (fun j hj w => hR_ne (f := 9) (g := 10) (by decide) ok hi hj hr (fun c hc' => ⟨fun q => by rw [q.1, q.2], fun q => by
        by_cases e : j = i
        · subst e
          have := (ok.2 j hj).1
          omega
        · exact hv j hj w c hc'⟩)) (fun c hc' => by
        rw [wr2_f (by decide), wr2_g (by decide)]
        by_cases e : c = r
        · subst e
          rw [if_pos rfl, if_pos rfl]
          exact ⟨rfl, rfl⟩
        · rw [if_neg (by omega), if_neg (by omega)]
          exact hc c (by omega))
    refine ⟨s', fun c2 => ?_, kfr_trans f1 q2, q3⟩
    rw [kb_PM_reckon_30, if_neg (by rw [nI_leI (by omega) (by omega)]; omega), ce, kk_some, n64, mj_gd_nI (by omega) (by omega), nI_clamp (by omega), kk_letE, mj_gd_nI (by omega) (by omega), kk_letE, kB_2, kPQ_p, kPQ_q, nI_1]
    exact q1 c2
theorem rT_reck {X : tX} {V : tF} {σ : kS} (ok : x_ok X) {N : Nat} (hN : 300 ≤ N) (gV : gF V) (xv : xV X V) {m : Nat} (hm : m < x_n X) (hs : rSt X σ) (hl : ∀ j, j < x_n X → x_o X j = 16 → vR X V σ j) : ∃ s, kf_PM_reckon N σ (nI m) = some ((), s) ∧ fRk σ s ∧ ∀ j, j < x_n X → (j ≤ m ∨ x_o X j = 16) → vR X V s j := by
  have hn := ok.1
  have lp : ∀ d i fu s, d + i = m + 1 → d < fu → fRk σ s → (∀ j, j < x_n X → (j < i ∨ x_o X j = 16) → vR X V s j) → ∃ s', kb_PM_reckon_2 N fu s (nI m) (nI i) = some ((), s') ∧ fRk σ s' ∧ ∀ j, j < x_n X → (j ≤ m ∨ x_o X j = 16) → vR X V s' j := by
    intro d
    induction d with
    | zero =>
      intro i fu s hd hf hfr hv
      obtain ⟨f', rfl⟩ : ∃ f', fu = f' + 1 := ⟨fu - 1, by omega⟩
      refine ⟨s, ?_, hfr, fun j hj w => hv j hj (by omega)⟩
      rw [kb_PM_reckon_2, if_pos (by rw [nI_ltI (by omega) (by omega)]; omega)]
    | succ d ih =>
      intro i fu s hd hf hfr hv
      obtain ⟨f', rfl⟩ : ∃ f', fu = f' + 1 := ⟨fu - 1, by omega⟩
      have hi : i < x_n X := by omega
      have hs1 := rSt_rk hfr hs
      rw [kb_PM_reckon_2, if_neg (by rw [nI_ltI (by omega) (by omega)]; omega), mj_tab_nI (by omega) (by omega), Option.bind_some, (hs1.2 i hi).1]
      by_cases ho : x_o X i = 16
      · obtain ⟨s', q⟩ := ih (i + 1) f' s (by omega) (by omega) hfr (fun j hj w => hv j hj (by
          by_cases e : j = i
          · subst e
            exact Or.inr ho
          · omega))
        refine ⟨s', ?_⟩
        rw [if_pos (show oI (x_o X i) (x_o X i) = -2 from if_pos ho)]
        unfold kb_PM_reckon_81
        rw [nI_1]
        exact q
      · have ho' : x_o X i < 16 := by
          have := (ok.2 i hi).1
          omega
        obtain ⟨s1, q1, q2, q3⟩ := rT_row ok hi ho' hN gV xv m (x_c X i) 0 N s (by omega) (by have := (xc_b ok hi).2; omega) hs1 hv (fun c hc => absurd hc (by omega))
        obtain ⟨s', q⟩ := ih (i + 1) f' s1 (by omega) (by omega) (kfr_trans hfr q2) q3
        refine ⟨s', ?_⟩
        have no : ¬ oI (x_o X i) (x_o X i) = -2 := by
          rw [show oI (x_o X i) (x_o X i) = nI (x_o X i) from if_neg ho]
          intro w
          have := congrArg Int32.toInt w
          rw [nI_toInt (by omega), show (-2 : Int32).toInt = -2 from by decide] at this
          omega
        have g := q1 (kb_PM_reckon_2 N f')
        rw [if_neg no, rn_cells hs1 ok hN hi, kk_some, show (0 : Int32) = nI 0 from rfl, g]
        exact q
  exact lp (m + 1) 0 N σ (by omega) (by omega) (kfr_refl _ _ _ _ _) (fun j hj w => hl j hj (by omega))
