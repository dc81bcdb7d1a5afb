/-! THE TABLE, 3: the best cut of a column, the best column -/
def cst (F : Option Rat) (v : Int32) (q : Int32 × Option Rat) : Int32 × Option Rat := if F ≠ none ∧ (q.2 = none ∨ fab q.2 F ∨ (v < q.1 ∧ F = q.2)) then (v, F) else q
def cs (n : Nat) (cl : Nat → Nat) (x : Nat → Nat → Int32) (c : Nat) : Nat → Int32 × Option Rat
  | 0 => (10000, none)
  | r + 1 => cst (tcost n cl x c (x r c)) (x r c) (cs n cl x c r)
theorem fG_tcost (n : Nat) (cl : Nat → Nat) (x : Nat → Nat → Int32) (c : Nat) (v : Int32) : fG (tcost n cl x c v) := fG_tc _ _
theorem cs_inv (n : Nat) (cl : Nat → Nat) (x : Nat → Nat → Int32) (c : Nat) : ∀ r : Nat, (∀ q, q < r → x q c ≠ 10000) → ((cs n cl x c r).1 = 10000 ↔ (cs n cl x c r).2 = none) ∧ ((cs n cl x c r).2 ≠ none → (cs n cl x c r).2 = tcost n cl x c (cs n cl x c r).1) ∧ fG (cs n cl x c r).2
  | 0, _ => ⟨⟨fun _ => rfl, fun _ => rfl⟩, fun h => absurd rfl h, fG_none⟩
  | r + 1, hx => by
    have ih := cs_inv n cl x c r (fun q hq => hx q (by omega))
    have hr := hx r (by omega)
    unfold cs cst
    split
    · rename_i h
      exact ⟨⟨fun e => absurd e hr, fun e => absurd e h.1⟩, fun _ => rfl, fG_tcost _ _ _ _ _⟩
    · exact ih
theorem fab_none_l (F : Option Rat) : ¬ fab none F := by
  show ¬ pP F * 0 < 0 * pQ F
  rw [Int.mul_zero, Int.zero_mul]
  omega
theorem bI_t {c : Prop} [Decidable c] (h : c) : bI c = 1 := if_pos h
theorem bI_f {c : Prop} [Decidable c] (h : ¬ c) : bI c = 0 := if_neg h
theorem ta_isLess (N : Nat) {F f : Option Rat} (hF : fG F) (hf : fG f) : kf_Ta_isLess N (en F) (en f) = some (bI (F ≠ none ∧ (f = none ∨ fab f F))) := by
  unfold kf_Ta_isLess kb_Ta_isLess_0 kb_Ta_isLess_24 kb_Ta_isLess_20 kb_Ta_isLess_25
  rw [show (0 : Int64) = en none from rfl]
  by_cases h1 : F = none
  · rw [if_pos ((lg_en hF fG_none).mpr h1), bI_f (c := F ≠ none ∧ (f = none ∨ fab f F)) (fun q => q.1 h1)]
    rfl
  · rw [if_neg (fun q => h1 ((lg_en hF fG_none).mp q))]
    by_cases h2 : f = none
    · rw [if_pos ((lg_en hf fG_none).mpr h2), bI_t (c := F ≠ none ∧ (f = none ∨ fab f F)) ⟨h1, Or.inl h2⟩]
      rfl
    · rw [if_neg (fun q => h2 ((lg_en hf fG_none).mp q)), kf_compare N hF hf, Option.bind_some]
      by_cases h3 : fab f F
      · have h4 : ¬ fab F f := by
          unfold fab at *
          omega
        rw [if_neg h4, if_pos h3, if_neg (by decide), bI_t (c := F ≠ none ∧ (f = none ∨ fab f F)) ⟨h1, Or.inr h3⟩]
        rfl
      · have e : (0 : Int32) ≤ (if fab F f then 1 else if fab f F then -1 else 0) := by
          rw [if_neg h3]
          split <;> decide
        rw [if_pos e, bI_f (c := F ≠ none ∧ (f = none ∨ fab f F)) (fun q => q.2.elim h2 h3)]
        rfl
theorem ta_cutloop {N : Nat} (hN : 100 ≤ N) {n c : Nat} (hc : c < 4) {cl : Nat → Nat} {x : Nat → Nat → Int32} (hx : ∀ q, q < n → x q c ≠ 10000) : ∀ (d r fu : Nat) (τ : kS), d + r = n → d < fu → taV n cl x τ →
    ∃ τ2, kb_Ta_bestCutOf_9 N fu τ (nI c) (cs n cl x c r).1 (en (cs n cl x c r).2) (nI r) = some ((cs n cl x c n).1, τ2) ∧ kfr [] [] [2, 3] [] τ τ2 := by
  intro d
  induction d with
  | zero =>
    intro r fu τ hd hf hT
    obtain ⟨f', rfl⟩ : ∃ f', fu = f' + 1 := ⟨fu - 1, by omega⟩
    have hr : r = n := by omega
    subst hr
    have hn := hT.1
    refine ⟨τ, ?_, kfr_refl _ _ _ _ _⟩
    rw [kb_Ta_bestCutOf_9, hT.2.1, if_pos (by rw [nI_leI (by omega) (by omega)]; omega)]
  | succ d ih =>
    intro r fu τ hd hf hT
    obtain ⟨f', rfl⟩ : ∃ f', fu = f' + 1 := ⟨fu - 1, by omega⟩
    have hn := hT.1
    have e4 : nI r * 4 + nI c = nI (4 * r + c) := by
      rw [show (4 : Int32) = nI 4 from rfl, nI_mul, nI_add]
      congr 1
      omega
    obtain ⟨hcl, hc1, hxr⟩ := hT.2.2 r (by omega)
    obtain ⟨τ1, a1, a2⟩ := ta_cost hN hc (x r c) hT
    obtain ⟨τ2, g1, g2⟩ := ih (r + 1) f' τ1 (by omega) (by omega) (taV_fr a2 hT)
    refine ⟨τ2, ?_, kfr_trans a2 g2⟩
    have inv := cs_inv n cl x c r (fun q hq => hx q (by omega))
    rw [← g1]
    rw [kb_Ta_bestCutOf_9, hT.2.1, if_neg (by rw [nI_leI (by omega) (by omega)]; omega), e4, mj_tab_nI (by omega) (by omega), Option.bind_some, hxr c hc, a1, kk_some, ta_isLess N (fG_tcost _ _ _ _ _) inv.2.2, Option.bind_some]
    have ecs : cs n cl x c (r + 1) = cst (tcost n cl x c (x r c)) (x r c) (cs n cl x c r) := rfl
    rw [ecs]
    have hF := fG_tcost n cl x c (x r c)
    have hf2 := inv.2.2
    generalize tcost n cl x c (x r c) = F at *
    generalize cs n cl x c r = Q at *
    unfold kb_Ta_bestCutOf_69 kb_Ta_bestCutOf_75 cst
    rw [nI_1, show (0 : Int64) = en none from rfl]
    by_cases h1 : F = none
    · rw [if_pos (bI_0.mpr (fun q => q.1 h1)), if_pos ((lg_en hF fG_none).mpr h1), if_neg (fun q => q.1 h1)]
    · by_cases h2 : Q.2 = none ∨ fab Q.2 F
      · rw [if_neg (fun q => bI_0.mp q ⟨h1, h2⟩), if_pos ⟨h1, h2.elim Or.inl (fun q => Or.inr (Or.inl q))⟩]
      · rw [if_pos (bI_0.mpr (fun q => h2 q.2)), if_neg (fun q => h1 ((lg_en hF fG_none).mp q))]
        by_cases h3 : F = Q.2
        · rw [if_pos ((lg_en hF hf2).mpr h3)]
          by_cases h4 : Q.1 ≤ x r c
          · rw [if_pos h4, if_neg (fun q => q.2.elim (fun w => h2 (Or.inl w)) (fun w => w.elim (fun y => h2 (Or.inr y)) (fun y => absurd y.1 (Int32.not_lt.mpr h4))))]
          · rw [if_neg h4, if_pos ⟨h1, Or.inr (Or.inr ⟨Int32.not_le.mp h4, h3⟩)⟩]
        · rw [if_neg (fun q => h3 ((lg_en hF hf2).mp q)), if_neg (fun q => q.2.elim (fun w => h2 (Or.inl w)) (fun w => w.elim (fun y => h2 (Or.inr y)) (fun y => h3 y.2)))]
theorem pPQ_inj {f g : Option Rat} (h1 : pP f = pP g) (h2 : pQ f = pQ g) : f = g := by
  cases f with
  | none =>
    cases g with
    | none => rfl
    | some s =>
      have hd := s.den_pos
      have e3 : (0 : Int) = s.den := h2
      omega
  | some r =>
    cases g with
    | none =>
      have hd := r.den_pos
      have e3 : (r.den : Int) = 0 := h2
      omega
    | some s =>
      have e3 : (r.den : Int) = s.den := h2
      exact congrArg some (Rat.ext h1 (by omega))
theorem pm_cutloop {N : Nat} (hN : 100 ≤ N) {n c : Nat} (hc : c < 4) {cl : Nat → Nat} {x : Nat → Nat → Int32} (hx : ∀ q, q < n → x q c ≠ 10000) : ∀ (d r fu : Nat) (σ : kS), d + r = n → d < fu → pmV n cl x σ →
    σ.2.1 24 = zL (pP (cs n cl x c r).2) → σ.2.1 25 = zL (pQ (cs n cl x c r).2) →
    ∃ s, kb_PM_cut_30 N fu σ (nI c) (cs n cl x c r).1 (nI r) = some ((cs n cl x c n).1, s) ∧ kfr [22, 23] [0, 1, 24, 25] [] [] σ s ∧ s.2.1 24 = zL (pP (cs n cl x c n).2) ∧ s.2.1 25 = zL (pQ (cs n cl x c n).2) := by
  intro d
  induction d with
  | zero =>
    intro r fu σ hd hf hT h24 h25
    obtain ⟨f', rfl⟩ : ∃ f', fu = f' + 1 := ⟨fu - 1, by omega⟩
    have hr : r = n := by omega
    subst hr
    have hn := hT.1
    refine ⟨σ, ?_, kfr_refl _ _ _ _ _, h24, h25⟩
    rw [kb_PM_cut_30, hT.2.1, if_pos (by rw [nI_leI (by omega) (by omega)]; omega)]
  | succ d ih =>
    intro r fu σ hd hf hT h24 h25
    obtain ⟨f', rfl⟩ : ∃ f', fu = f' + 1 := ⟨fu - 1, by omega⟩
    have hn := hT.1
    have e5 : 5 * nI r + nI c = nI (5 * r + c) := by
      rw [show (5 : Int32) = nI 5 from rfl, nI_mul, nI_add]
    obtain ⟨hcl, hc1, hxr⟩ := hT.2.2 r (by omega)
    obtain ⟨s1, a1, a2, a3, a4⟩ := pm_costs hN hc (x r c) hT
    have inv := cs_inv n cl x c r (fun q hq => hx q (by omega))
    rw [kb_PM_cut_30, hT.2.1, if_neg (by rw [nI_leI (by omega) (by omega)]; omega), e5, mj_tab_nI (by omega) (by omega), Option.bind_some, hxr c hc, a1, kk_some]
    have b24 : s1.2.1 24 = zL (pP (cs n cl x c r).2) := (a2.2.1 24 (by decide)).trans h24
    have b25 : s1.2.1 25 = zL (pQ (cs n cl x c r).2) := (a2.2.1 25 (by decide)).trans h25
    have hT1 : pmV n cl x s1 := pmV_fr a2 (by decide) (by decide) hT
    have a2' : kfr [22, 23] [0, 1, 24, 25] [] [] σ s1 := kfr_mono a2 (by decide) (by decide) (by decide) (by decide)
    have ecs : cs n cl x c (r + 1) = cst (tcost n cl x c (x r c)) (x r c) (cs n cl x c r) := rfl
    have no : cs n cl x c (r + 1) = cs n cl x c r → ∃ s, kb_PM_cut_30 N f' s1 (nI c) (cs n cl x c r).1 (nI (r + 1)) = some ((cs n cl x c n).1, s) ∧ kfr [22, 23] [0, 1, 24, 25] [] [] σ s ∧ s.2.1 24 = zL (pP (cs n cl x c n).2) ∧ s.2.1 25 = zL (pQ (cs n cl x c n).2) := by
      intro e
      obtain ⟨s, g1, g2, g3, g4⟩ := ih (r + 1) f' s1 (by omega) (by omega) hT1 (by rw [e]; exact b24) (by rw [e]; exact b25)
      rw [e] at g1
      exact ⟨s, g1, kfr_trans a2' g2, g3, g4⟩
    have yes : cs n cl x c (r + 1) = (x r c, tcost n cl x c (x r c)) → ∃ s, kb_PM_cut_30 N f' (kL (kL s1 24 (s1.2.1 0)) 25 (s1.2.1 1)) (nI c) (x r c) (nI (r + 1)) = some ((cs n cl x c n).1, s) ∧ kfr [22, 23] [0, 1, 24, 25] [] [] σ s ∧ s.2.1 24 = zL (pP (cs n cl x c n).2) ∧ s.2.1 25 = zL (pQ (cs n cl x c n).2) := by
      intro e
      have fr : kfr [22, 23] [0, 1, 24, 25] [] [] s1 (kL (kL s1 24 (s1.2.1 0)) 25 (s1.2.1 1)) := kfr_trans (kfr_L (by decide)) (kfr_L (by decide))
      obtain ⟨s, g1, g2, g3, g4⟩ := ih (r + 1) f' (kL (kL s1 24 (s1.2.1 0)) 25 (s1.2.1 1)) (by omega) (by omega) (pmV_fr fr (by decide) (by decide) hT1) (by rw [e]; exact a3) (by rw [e]; exact a4)
      rw [e] at g1
      exact ⟨s, g1, kfr_trans a2' (kfr_trans fr g2), g3, g4⟩
    have hF := fG_tcost n cl x c (x r c)
    have hf2 := inv.2.2
    have hne := hx r (by omega)
    have i1 := inv.1
    unfold kb_PM_cut_122 kb_PM_cut_126 kb_PM_cut_127 kb_PM_cut_156
    have k25 : ∀ z, (kL s1 24 z).2.1 1 = s1.2.1 1 := fun _ => rfl
    simp only [nI_1, if_neg (show ¬ (1 : Int32) = 0 by decide), if_true, kk_let, k25]
    rw [a3, a4, b24, b25, kp_isAbove N hf2 hF, Option.bind_some]
    rw [a3, a4] at yes
    generalize tcost n cl x c (x r c) = F at *
    by_cases h1 : F = none
    · rw [if_pos (bI_0.mpr (fun q => q h1))]
      exact no (by rw [ecs]; exact if_neg (fun q => q.1 h1))
    · rw [if_neg (fun q => bI_0.mp q h1)]
      by_cases h2 : (cs n cl x c r).2 = none
      · rw [if_pos (i1.mpr h2)]
        exact yes (by rw [ecs]; exact if_pos ⟨h1, Or.inl h2⟩)
      · rw [if_neg (fun q => h2 (i1.mp q))]
        by_cases h3 : fab (cs n cl x c r).2 F
        · rw [if_neg (fun q => bI_0.mp q h3)]
          exact yes (by rw [ecs]; exact if_pos ⟨h1, Or.inr (Or.inl h3)⟩)
        · rw [if_pos (bI_0.mpr h3)]
          by_cases h4 : (cs n cl x c r).1 ≤ x r c
          · rw [if_pos h4]
            exact no (by rw [ecs]; exact if_neg (fun q => q.2.elim h2 (fun w => w.elim h3 (fun y => absurd y.1 (Int32.not_lt.mpr h4)))))
          · rw [if_neg h4]
            by_cases h5 : pP F = pP (cs n cl x c r).2
            · rw [if_pos ((zg_eq (rg_pP hF) (rg_pP hf2)).mpr h5)]
              by_cases h6 : pQ F = pQ (cs n cl x c r).2
              · rw [if_pos ((zg_eq (rg_pQ hF) (rg_pQ hf2)).mpr h6)]
                exact yes (by rw [ecs]; exact if_pos ⟨h1, Or.inr (Or.inr ⟨Int32.not_le.mp h4, pPQ_inj h5 h6⟩)⟩)
              · rw [if_neg (fun q => h6 ((zg_eq (rg_pQ hF) (rg_pQ hf2)).mp q))]
                exact no (by rw [ecs]; exact if_neg (fun q => q.2.elim h2 (fun w => w.elim h3 (fun y => h6 (by rw [y.2])))))
            · rw [if_neg (fun q => h5 ((zg_eq (rg_pP hF) (rg_pP hf2)).mp q))]
              exact no (by rw [ecs]; exact if_neg (fun q => q.2.elim h2 (fun w => w.elim h3 (fun y => h5 (by rw [y.2])))))
