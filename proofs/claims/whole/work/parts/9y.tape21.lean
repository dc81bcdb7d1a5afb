/-! THE TAPE, 20: the call train -/
theorem fup_ne {S : tF} {j c : Nat} {x : Option Rat} {q : Nat} (h : q ≠ j) : fup S j c x q = S q := by
  funext d
  exact if_neg (fun w => h w.1)
theorem gvs_ne {X : tX} {V S : tF} {i r : Nat} {y : Option Rat} {q : Nat} (h1 : q ≠ x_a X i) (h2 : x_o X i < 5 → q ≠ x_b X i) : ∀ k, gvs X V i r y S k q = S q
  | 0 => rfl
  | k + 1 => by
    have ih := gvs_ne (V := V) (S := S) (r := r) (y := y) h1 h2 k
    show gv2 X V i r y k (gv1 X V i r y k (gvs X V i r y S k)) q = S q
    have e1 : gv1 X V i r y k (gvs X V i r y S k) q = S q := (fup_ne h1).trans ih
    unfold gv2
    by_cases h5 : x_o X i < 5
    · rw [if_pos h5, fup_ne (h2 h5), e1]
    · rw [if_neg h5, e1]
theorem gnd_ne {X : tX} {V S : tF} {i : Nat} {q : Nat} (h1 : q ≠ x_a X i) (h2 : x_o X i < 5 → q ≠ x_b X i) : ∀ r, gnd X V i S r q = S q
  | 0 => rfl
  | r + 1 => by
    have ih := gnd_ne (V := V) (S := S) h1 h2 r
    show gcl X V i r (gnd X V i S r) q = S q
    unfold gcl
    split
    · exact ih
    · rw [gvs_ne h1 h2, ih]
theorem gsl_hi {X : tX} (ok : x_ok X) {V : tF} : ∀ (d i : Nat) (S : tF) (q : Nat), i < x_n X → i ≤ q → gsl X V d i S q = S q
  | 0, _, _, _, _, _ => rfl
  | d + 1, i, S, q, hi, hq => by
    show gsl X V d (i - 1) (if x_o X i < 16 then gnd X V i S (x_c X i) else S) q = S q
    rw [gsl_hi ok d (i - 1) _ q (by omega) (by omega)]
    by_cases ho : x_o X i < 16
    · have g1 := (x_lt ok hi ho).1
      rw [if_pos ho, gnd_ne (by omega) (fun h5 => by have := (x_lt2 ok hi h5).1; omega)]
    · rw [if_neg ho]
/-- the leaves after a step of training, up to cell c0 of node k -/
def Lst (pm : Nat → Bool) (rt : Option Rat) (V S : tF) (k c0 : Nat) : tF := fun j c => if (j < k ∨ (j = k ∧ c < c0)) ∧ pm j = true then frnd (fadd (V j c) (fneg (fmul rt (S j c)))) else V j c
theorem gF_L {pm : Nat → Bool} {rt : Option Rat} {V S : tF} (gV : gF V) (k c0 : Nat) : gF (Lst pm rt V S k c0) := fun j c => fG_ite (fG_rnd _) (gV j c)
theorem L_nx {pm : Nat → Bool} {rt : Option Rat} {V S : tF} {k : Nat} {x : Nat} (j c : Nat) (h : j = k → c < x) : Lst pm rt V S k x j c = Lst pm rt V S (k + 1) 0 j c := by
  unfold Lst
  by_cases p : pm j = true
  · by_cases q : j < k ∨ (j = k ∧ c < x)
    · rw [if_pos ⟨q, p⟩, if_pos ⟨by omega, p⟩]
    · rw [if_neg (fun w => q w.1), if_neg (fun w => by
        have := w.1
        by_cases e : j = k
        · exact q (Or.inr ⟨e, h e⟩)
        · omega)]
  · rw [if_neg (fun w => p w.2), if_neg (fun w => p w.2)]
theorem L_sk {pm : Nat → Bool} {rt : Option Rat} {V S : tF} {k : Nat} (hp : ¬ pm k = true) : Lst pm rt V S k 0 = Lst pm rt V S (k + 1) 0 := by
  funext j c
  unfold Lst
  by_cases p : pm j = true
  · have : j ≠ k := fun e => hp (by rw [← e]; exact p)
    by_cases q : j < k
    · rw [if_pos ⟨Or.inl q, p⟩, if_pos ⟨by omega, p⟩]
    · rw [if_neg (fun w => by omega), if_neg (fun w => by omega)]
  · rw [if_neg (fun w => p w.2), if_neg (fun w => p w.2)]
theorem c_mv {X : tX} {ρ : tR} {τ : tS} {V S : tF} {pm : Nat → Bool} {rt : Option Rat} (ok : x_ok X) {N : Nat} (hN : 300 ≤ N) (gV : gF V) (gS : gF S) (gr : fG rt) (hc : cSt X ρ τ) (h2 : τ.2.1 2 = en rt) (hpm : ∀ j, j < x_n X → τ.2.2.1 j 11 = bI (pm j = true)) (hp : ∀ j, pm j = true → j < x_n X ∧ x_o X j = 16) (hs : sC X S τ) (hv : ∀ j, j < x_n X → x_o X j = 16 → vC X V τ j) : ∃ τ', kf_Tp_moveParameters N ρ τ = some ((), τ') ∧ τ'.1 = upd τ.1 3 0 ∧ τ'.2.1 = τ.2.1 ∧ τ'.2.2.1 = τ.2.2.1 ∧ ∀ j, j < x_n X → x_o X j = 16 → vC X (Lst pm rt V S (x_n X) 0) τ' j := by
  have hn := ok.1
  have inner : ∀ k, k < x_n X → pm k = true → ∀ d c fu τ1, d + c = x_c X k → d < fu → tsm τ τ1 → (∀ j, τ1.2.2.2.2 j 10 = τ.2.2.2.2 j 10) → (∀ j, j < x_n X → x_o X j = 16 → vC X (Lst pm rt V S k c) τ1 j) → ∃ τ', (∀ c2, kb_Tp_moveParameters_19 N ρ c2 fu τ1 (nI k) (some k) (nI c) = c2 τ' (nI (k + 1))) ∧ tsm τ τ' ∧ (∀ j, τ'.2.2.2.2 j 10 = τ.2.2.2.2 j 10) ∧ ∀ j, j < x_n X → x_o X j = 16 → vC X (Lst pm rt V S (k + 1) 0) τ' j := by
    intro k hk pk d
    have cb := (xc_b ok hk).2
    induction d with
    | zero =>
      intro c fu τ1 hd hf h1 h3 h4
      obtain ⟨f', rfl⟩ : ∃ f', fu = f' + 1 := ⟨fu - 1, by omega⟩
      have : c = x_c X k := by omega
      subst this
      refine ⟨τ1, fun c2 => ?_, h1, h3, fun j hj ho c hc' => ?_⟩
      · rw [kb_Tp_moveParameters_19, Option.bind_some, h1.2.2.1, hpm k hk, bI_t pk, if_neg (by decide), (hc.2.2 k hk).1.2.2.2.2, if_pos (Int32.le_refl _)]
        unfold kb_Tp_moveParameters_81
        rw [nI_1]
      · rw [h4 j hj ho c hc', L_nx j c (fun e => by subst e; exact hc')]
    | succ d ih =>
      intro c fu τ1 hd hf h1 h3 h4
      obtain ⟨f', rfl⟩ : ∃ f', fu = f' + 1 := ⟨fu - 1, by omega⟩
      have hcc : c < x_c X k := by omega
      have o16 := (hp k pk).2
      have vk : τ1.2.2.2.2 k 9 c = en (V k c) := by
        rw [h4 k hk o16 c hcc]
        unfold Lst
        rw [if_neg (fun w => by omega)]
      have sk : τ1.2.2.2.2 k 10 c = en (S k c) := by rw [h3]; exact hs k hk c hcc
      obtain ⟨τ', q1, q2⟩ := ih (c + 1) f' (tV τ1 k 9 c (en (frnd (fadd (V k c) (fneg (fmul rt (S k c))))))) (by omega) (by omega) (tsm_trans h1 (tsm_V _ _ _ _ _)) (fun j => (tV_ne _ _ _ _ _ (fun w => absurd w.2 (by decide))).trans (h3 j)) (fun j hj ho c' hc' => by
        rw [tV_5]
        by_cases e : j = k ∧ c' = c
        · rw [if_pos ⟨e.1, rfl, e.2⟩, e.1, e.2]
          unfold Lst
          rw [if_pos ⟨by omega, pk⟩]
        · rw [if_neg (fun w => e ⟨w.1, w.2.2⟩), h4 j hj ho c' hc']
          congr 1
          unfold Lst
          by_cases p : (j < k ∨ (j = k ∧ c' < c)) ∧ pm j = true
          · rw [if_pos p, if_pos ⟨by omega, p.2⟩]
          · rw [if_neg p, if_neg (fun w => p ⟨by omega, w.2⟩)])
      refine ⟨τ', fun c2 => ?_, q2⟩
      have le : t_len ρ k = x_c X k := cS_len hc ok hk
      rw [kb_Tp_moveParameters_19, Option.bind_some, h1.2.2.1, hpm k hk, bI_t pk, if_neg (by decide), (hc.2.2 k hk).1.2.2.2.2, if_neg (by rw [nI_leI (by omega) (by omega)]; omega), le, mj_tabL_nI hcc (by omega), Option.bind_some, sk, h1.2.1, h2, kf_times (by omega) gr (gS _ _), Option.bind_some, kf_minus N (fG_mul _ _), Option.bind_some, mj_tabL_nI hcc (by omega), Option.bind_some, vk, kf_add (by omega) (gV _ _) (fG_neg (fG_mul _ _)), Option.bind_some, kf_rounded (by omega) (fG_add _ _), Option.bind_some, mj_gd_nI hcc (by omega), kk_letE, nI_clamp (by omega), nI_1]
      exact q1 c2
  have outer : ∀ d k fu τ1, d + k = x_n X → d < fu → tsm τ τ1 → (∀ j, τ1.2.2.2.2 j 10 = τ.2.2.2.2 j 10) → (∀ j, j < x_n X → x_o X j = 16 → vC X (Lst pm rt V S k 0) τ1 j) → ∃ τ', kb_Tp_moveParameters_2 N ρ fu τ1 (nI k) = some ((), τ') ∧ τ'.1 = upd τ.1 3 0 ∧ τ'.2.1 = τ.2.1 ∧ τ'.2.2.1 = τ.2.2.1 ∧ ∀ j, j < x_n X → x_o X j = 16 → vC X (Lst pm rt V S (x_n X) 0) τ' j := by
    intro d
    induction d with
    | zero =>
      intro k fu τ1 hd hf h1 h3 h4
      obtain ⟨f', rfl⟩ : ∃ f', fu = f' + 1 := ⟨fu - 1, by omega⟩
      have : k = x_n X := by omega
      subst this
      refine ⟨tI τ1 3 0, ?_, ?_, h1.2.1, h1.2.2.1, h4⟩
      · rw [kb_Tp_moveParameters_2, h1.1, hc.2.1, if_pos (Int32.le_refl _)]
        rfl
      · show upd τ1.1 3 0 = _
        rw [h1.1]
    | succ d ih =>
      intro k fu τ1 hd hf h1 h3 h4
      obtain ⟨f', rfl⟩ : ∃ f', fu = f' + 1 := ⟨fu - 1, by omega⟩
      have hk : k < x_n X := by omega
      have cb := (xc_b ok hk).2
      rw [kb_Tp_moveParameters_2, h1.1, hc.2.1, if_neg (by rw [nI_leI (by omega) (by omega)]; omega), hc.1, tn_nI hk hn, Option.bind_some]
      by_cases pk : pm k = true
      · obtain ⟨τ2, q1, q2, q3, q4⟩ := inner k hk pk (x_c X k) 0 N τ1 (by omega) (by omega) h1 h3 h4
        obtain ⟨τ', p1, p2⟩ := ih (k + 1) f' τ2 (by omega) (by omega) q2 q3 q4
        refine ⟨τ', ?_, p2⟩
        rw [show (0 : Int32) = nI 0 from rfl, q1 (kb_Tp_moveParameters_2 N ρ f')]
        exact p1
      · rw [L_sk pk] at h4
        obtain ⟨τ', p1, p2⟩ := ih (k + 1) f' τ1 (by omega) (by omega) h1 h3 h4
        refine ⟨τ', ?_, p2⟩
        obtain ⟨N', hN'⟩ : ∃ N', N = N' + 1 := ⟨N - 1, by omega⟩
        have st : ∀ c2, kb_Tp_moveParameters_19 N ρ c2 N τ1 (nI k) (some k) 0 = c2 τ1 (nI (k + 1)) := fun c2 => by
          conv => lhs; arg 4; rw [hN']
          rw [kb_Tp_moveParameters_19, Option.bind_some, h1.2.2.1, hpm k hk, bI_f pk, if_pos rfl]
          unfold kb_Tp_moveParameters_81
          rw [nI_1]
        rw [st]
        exact p1
  exact outer (x_n X) 0 N τ (by omega) (by omega) (tsm_refl _) (fun _ => rfl) (fun j hj ho c hc' => by
    rw [hv j hj ho c hc']
    congr 1
    unfold Lst
    rw [if_neg (fun w => by omega)])
