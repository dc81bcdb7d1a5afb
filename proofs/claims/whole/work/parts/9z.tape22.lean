/-! THE TAPE, 21: the call train, the reference's side -/
theorem r_mv {X : tX} {σ : kS} {V S : tF} {pm : Nat → Bool} {rt : Option Rat} (ok : x_ok X) {N : Nat} (hN : 300 ≤ N) (gV : gF V) (gS : gF S) (gr : fG rt) (h : rTp X V pm rt σ) (hp : ∀ j, pm j = true → j < x_n X ∧ x_o X j = 16) {m : Nat} (hm : m < x_n X) (hs : ∀ j, j ≤ m → hR 13 14 X S σ j) (hz : ∀ j, m < j → S j = fun _ => some 0) (steps st : Int32) (c36 : kS → Int32 → Int32 → Int32 → Option (Int32 × kS)) : ∃ s, kb_PM_train_50 N c36 N σ (nI m) steps st 0 = c36 s (nI m) steps (st + 1) ∧ fRk σ s ∧ ∀ j, j < x_n X → x_o X j = 16 → vR X (Lst pm rt V S (x_n X) 0) s j := by
  have hn := ok.1
  have inner : ∀ k, k < x_n X → pm k = true → ∀ d c fu s1, d + c = x_c X k → d < fu → fRk σ s1 → (∀ j, j < x_n X → x_o X j = 16 → vR X (Lst pm rt V S k c) s1 j) → ∃ s', (∀ c50, kb_PM_train_75 N c36 c50 fu s1 (nI m) steps st (nI k) (nI c) = c50 s' (nI m) steps st (nI (k + 1))) ∧ fRk σ s' ∧ ∀ j, j < x_n X → x_o X j = 16 → vR X (Lst pm rt V S (k + 1) 0) s' j := by
    intro k hk pk d
    have cb := (xc_b ok hk).2
    induction d with
    | zero =>
      intro c fu s1 hd hf h1 h4
      obtain ⟨f', rfl⟩ : ∃ f', fu = f' + 1 := ⟨fu - 1, by omega⟩
      have : c = x_c X k := by omega
      subst this
      refine ⟨s1, fun c50 => ?_, h1, fun j hj ho c hc' => ?_⟩
      · rw [kb_PM_train_75, rn_cells (rSt_rk h1 h.1) ok hN hk, kk_some, if_pos (Int32.le_refl _)]
        unfold kb_PM_train_209
        rw [nI_1]
      · rw [(h4 j hj ho c hc').1, (h4 j hj ho c hc').2, L_nx j c (fun e => by subst e; exact hc')]
        exact ⟨rfl, rfl⟩
    | succ d ih =>
      intro c fu s1 hd hf h1 h4
      obtain ⟨f', rfl⟩ : ∃ f', fu = f' + 1 := ⟨fu - 1, by omega⟩
      have hcc : c < x_c X k := by omega
      have o16 := (hp k pk).2
      have vk : s1.2.2.2 9 (64 * k + c) = zL (pP (V k c)) ∧ s1.2.2.2 10 (64 * k + c) = zL (pQ (V k c)) := by
        have := h4 k hk o16 c hcc
        unfold Lst at this
        rw [if_neg (fun w => by omega)] at this
        exact this
      generalize hx : frnd (fadd (V k c) (fneg (fmul rt (S k c)))) = x
      have f1 : fRk s1 (wr2 (kPQ s1 x) 9 10 (64 * k + c) x) := kfr_trans (kfr_PQ (by decide) (by decide)) (kfr_wr2 (by decide) (by decide))
      obtain ⟨s', q1, q2⟩ := ih (c + 1) f' (wr2 (kPQ s1 x) 9 10 (64 * k + c) x) (by omega) (by omega) (kfr_trans h1 f1) (fun j hj ho => hR_ne (f := 9) (g := 10) (by decide) ok hk hj hcc (fun c' hc' => ⟨fun e => by
          unfold Lst
          rw [e.1, e.2, if_pos ⟨by omega, pk⟩, hx], fun e => by
          have g := h4 j hj ho c' hc'
          have le : Lst pm rt V S k (c + 1) j c' = Lst pm rt V S k c j c' := by
            unfold Lst
            by_cases p : (j < k ∨ (j = k ∧ c' < c)) ∧ pm j = true
            · rw [if_pos p, if_pos ⟨by omega, p.2⟩]
            · rw [if_neg p, if_neg (fun w => p ⟨by omega, w.2⟩)]
          rw [le]
          exact g⟩))
      refine ⟨s', fun c50 => ?_, q2⟩
      have st1 := rSt_rk h1 h.1
      have l18 : s1.2.1 18 = zL (pP rt) := (h1.2.1 18 (by decide)).trans h.2.2.2.1
      have l19 : s1.2.1 19 = zL (pQ rt) := (h1.2.1 19 (by decide)).trans h.2.2.2.2
      have fin : ∀ a b, a = zL (pP (S k c)) → b = zL (pQ (S k c)) → kb_PM_train_132 N c36 c50 (kb_PM_train_75 N c36 c50 f') s1 (nI m) steps st (nI k) (nI c) (nI (64 * k + c)) a b = c50 s' (nI m) steps st (nI (k + 1)) := by
        intro a b ha hb
        have np := kp_plus (N := N) (by omega) (kPQ s1 (fmul rt (S k c))) (gV k c) (fG_neg (fG_mul rt (S k c)))
        rw [pP_neg, pQ_neg] at np
        have rd := kp_round (N := N) (by omega) s1 (fG_add (V k c) (fneg (fmul rt (S k c))))
        rw [hx] at rd
        have wz : kB (kB (kPQ s1 x) 9 (64 * k + c) (zL (pP x))) 10 (64 * k + c) (zL (pQ x)) = wr2 (kPQ s1 x) 9 10 (64 * k + c) x := rfl
        have v1 : (kPQ s1 (fmul rt (S k c))).2.2.2 9 (64 * k + c) = zL (pP (V k c)) := vk.1
        have v2 : (kPQ s1 (fmul rt (S k c))).2.2.2 10 (64 * k + c) = zL (pQ (V k c)) := vk.2
        unfold kb_PM_train_132
        rw [ha, hb, l18, l19, kp_times (by omega) s1 gr (gS _ _), kk_some, mj_tabL_nI (by omega) (by omega), Option.bind_some, mj_tabL_nI (by omega) (by omega), Option.bind_some, v1, v2, kPQ_p, kPQ_q, zL_neg, np, kk_some, kPQ_kPQ, rd, kk_some, mj_gd_nI (by omega) (by omega), kk_letE, mj_gd_nI (by omega) (by omega), kk_letE, nI_clamp (by omega), kB_2, kPQ_p, kPQ_q, wz, nI_1]
        exact q1 c50
      rw [kb_PM_train_75, rn_cells st1 ok hN hk, kk_some, if_neg (by rw [nI_leI (by omega) (by omega)]; omega), n64]
      unfold kb_PM_train_113
      by_cases e : m < k
      · have sz : S k c = some 0 := by rw [hz k e]
        rw [if_pos (by rw [nI_ltI (by omega) (by omega)]; omega), if_pos (by rw [nI_ltI (by omega) (by omega)]; omega)]
        exact fin 0 1 (by rw [sz]; rfl) (by rw [sz]; rfl)
      · obtain ⟨w1, w2⟩ := hs k (by omega) c hcc
        rw [if_neg (by rw [nI_ltI (by omega) (by omega)]; omega), mj_tabL_nI (by omega) (by omega), Option.bind_some, if_neg (by rw [nI_ltI (by omega) (by omega)]; omega), mj_tabL_nI (by omega) (by omega), Option.bind_some]
        exact fin _ _ (by rw [h1.2.2.2 13 (by decide)]; exact w1) (by rw [h1.2.2.2 14 (by decide)]; exact w2)
  have outer : ∀ d k fu s1, d + k = x_n X → d < fu → fRk σ s1 → (∀ j, j < x_n X → x_o X j = 16 → vR X (Lst pm rt V S k 0) s1 j) → ∃ s', kb_PM_train_50 N c36 fu s1 (nI m) steps st (nI k) = c36 s' (nI m) steps (st + 1) ∧ fRk σ s' ∧ ∀ j, j < x_n X → x_o X j = 16 → vR X (Lst pm rt V S (x_n X) 0) s' j := by
    intro d
    induction d with
    | zero =>
      intro k fu s1 hd hf h1 h4
      obtain ⟨f', rfl⟩ : ∃ f', fu = f' + 1 := ⟨fu - 1, by omega⟩
      have : k = x_n X := by omega
      subst this
      refine ⟨s1, ?_, h1, h4⟩
      rw [kb_PM_train_50, (rSt_rk h1 h.1).1, if_pos (Int32.le_refl _)]
    | succ d ih =>
      intro k fu s1 hd hf h1 h4
      obtain ⟨f', rfl⟩ : ∃ f', fu = f' + 1 := ⟨fu - 1, by omega⟩
      have hk : k < x_n X := by omega
      have cb := (xc_b ok hk).2
      have p8 : s1.2.2.1 8 k = bI (pm k = true) := by rw [h1.2.2.1 8 (by decide)]; exact h.2.2.1 k (by omega)
      rw [kb_PM_train_50, (rSt_rk h1 h.1).1, if_neg (by rw [nI_leI (by omega) (by omega)]; omega), mj_tab_nI (by omega) (by omega), Option.bind_some, p8]
      by_cases pk : pm k = true
      · obtain ⟨s2, q1, q2, q4⟩ := inner k hk pk (x_c X k) 0 N s1 (by omega) (by omega) h1 h4
        obtain ⟨s', p1, p2⟩ := ih (k + 1) f' s2 (by omega) (by omega) q2 q4
        refine ⟨s', ?_, p2⟩
        rw [bI_t pk, if_neg (by decide), show (0 : Int32) = nI 0 from rfl, q1 (kb_PM_train_50 N c36 f')]
        exact p1
      · rw [L_sk pk] at h4
        obtain ⟨s', p1, p2⟩ := ih (k + 1) f' s1 (by omega) (by omega) h1 h4
        refine ⟨s', ?_, p2⟩
        rw [bI_f pk, if_pos rfl]
        unfold kb_PM_train_209
        rw [nI_1]
        exact p1
  exact outer (x_n X) 0 N σ (by omega) (by omega) (kfr_refl _ _ _ _ _) (fun j hj ho c hc' => by
    rw [(h.2.1 j hj ho c hc').1, (h.2.1 j hj ho c hc').2]
    have : Lst pm rt V S 0 0 j c = V j c := by
      unfold Lst
      rw [if_neg (fun w => by omega)]
    rw [this]
    exact ⟨rfl, rfl⟩)
/-! the cells that are wild -/
def wcc (f : Nat → Option Rat) : Nat → Nat
  | 0 => 0
  | c + 1 => wcc f c + if f c = none then 1 else 0
def wcn (X : tX) (V : tF) (pm : Nat → Bool) : Nat → Nat
  | 0 => 0
  | k + 1 => wcn X V pm k + if pm k = true then wcc (V k) (x_c X k) else 0
theorem c_wild {X : tX} {ρ : tR} {τ : tS} {V : tF} {pm : Nat → Bool} (ok : x_ok X) {N : Nat} (hN : 300 ≤ N) (gV : gF V) (hc : cSt X ρ τ) (hpm : ∀ j, j < x_n X → τ.2.2.1 j 11 = bI (pm j = true)) (hp : ∀ j, pm j = true → j < x_n X ∧ x_o X j = 16) (hv : ∀ j, j < x_n X → x_o X j = 16 → vC X V τ j) : kf_Tp_countWildCells N ρ τ = some (nI (wcn X V pm (x_n X)), τ) := by
  have hn := ok.1
  have inner : ∀ k w, k < x_n X → pm k = true → ∀ d c fu, d + c = x_c X k → d < fu → ∀ c4, kb_Tp_countWildCells_22 N ρ c4 fu τ (nI (w + wcc (V k) c)) (nI k) (some k) (nI c) = c4 τ (nI (w + wcc (V k) (x_c X k))) (nI (k + 1)) := by
    intro k w hk pk d
    have cb := (xc_b ok hk).2
    induction d with
    | zero =>
      intro c fu hd hf c4
      obtain ⟨f', rfl⟩ : ∃ f', fu = f' + 1 := ⟨fu - 1, by omega⟩
      have : c = x_c X k := by omega
      subst this
      rw [kb_Tp_countWildCells_22, Option.bind_some, hpm k hk, bI_t pk, if_neg (by decide), (hc.2.2 k hk).1.2.2.2.2, if_pos (Int32.le_refl _)]
      unfold kb_Tp_countWildCells_62
      rw [nI_1]
    | succ d ih =>
      intro c fu hd hf c4
      obtain ⟨f', rfl⟩ : ∃ f', fu = f' + 1 := ⟨fu - 1, by omega⟩
      have g := ih (c + 1) f' (by omega) (by omega) c4
      have vk := hv k hk (hp k pk).2 c (by omega)
      rw [kb_Tp_countWildCells_22, Option.bind_some, hpm k hk, bI_t pk, if_neg (by decide), (hc.2.2 k hk).1.2.2.2.2, if_neg (by rw [nI_leI (by omega) (by omega)]; omega), cS_len hc ok hk, mj_tabL_nI (by omega) (by omega), Option.bind_some, vk]
      unfold kb_Tp_countWildCells_56
      rw [show wcc (V k) (c + 1) = wcc (V k) c + if V k c = none then 1 else 0 from rfl] at g
      by_cases z : V k c = none
      · rw [if_pos z] at g
        rw [if_pos (show lg_cmp (en (V k c)) 0 = 0 from (lg_en (gV _ _) fG_none).mpr z), nI_1, nI_1]
        exact g
      · rw [if_neg z] at g
        rw [if_neg (show ¬ lg_cmp (en (V k c)) 0 = 0 from fun q => z ((lg_en (gV _ _) fG_none).mp q)), nI_1]
        exact g
  have outer : ∀ d k fu, d + k = x_n X → d < fu → kb_Tp_countWildCells_4 N ρ fu τ (nI (wcn X V pm k)) (nI k) = some (nI (wcn X V pm (x_n X)), τ) := by
    intro d
    induction d with
    | zero =>
      intro k fu hd hf
      obtain ⟨f', rfl⟩ : ∃ f', fu = f' + 1 := ⟨fu - 1, by omega⟩
      have : k = x_n X := by omega
      subst this
      rw [kb_Tp_countWildCells_4, hc.2.1, if_pos (Int32.le_refl _)]
    | succ d ih =>
      intro k fu hd hf
      obtain ⟨f', rfl⟩ : ∃ f', fu = f' + 1 := ⟨fu - 1, by omega⟩
      have hk : k < x_n X := by omega
      have cb := (xc_b ok hk).2
      have g := ih (k + 1) f' (by omega) (by omega)
      rw [show wcn X V pm (k + 1) = wcn X V pm k + if pm k = true then wcc (V k) (x_c X k) else 0 from rfl] at g
      rw [kb_Tp_countWildCells_4, hc.2.1, if_neg (by rw [nI_leI (by omega) (by omega)]; omega), hc.1, tn_nI hk hn, Option.bind_some]
      by_cases pk : pm k = true
      · rw [if_pos pk] at g
        have := inner k (wcn X V pm k) hk pk (x_c X k) 0 N (by omega) (by omega) (kb_Tp_countWildCells_4 N ρ f')
        exact this.trans g
      · rw [if_neg pk] at g
        obtain ⟨N', hN'⟩ : ∃ N', N = N' + 1 := ⟨N - 1, by omega⟩
        have st : ∀ c4, kb_Tp_countWildCells_22 N ρ c4 N τ (nI (wcn X V pm k)) (nI k) (some k) 0 = c4 τ (nI (wcn X V pm k)) (nI (k + 1)) := fun c4 => by
          conv => lhs; arg 4; rw [hN']
          rw [kb_Tp_countWildCells_22, Option.bind_some, hpm k hk, bI_f pk, if_pos rfl]
          unfold kb_Tp_countWildCells_62
          rw [nI_1]
        rw [st]
        exact g
  exact outer (x_n X) 0 N (by omega) (by omega)
theorem r_wild {X : tX} {σ : kS} {V : tF} {pm : Nat → Bool} {rt : Option Rat} (ok : x_ok X) {N : Nat} (hN : 300 ≤ N) (gV : gF V) (h : rTp X V pm rt σ) (hp : ∀ j, pm j = true → j < x_n X ∧ x_o X j = 16) : kb_PM_train_226 N N σ 0 0 = some (nI (wcn X V pm (x_n X)), σ) := by
  have hn := ok.1
  have inner : ∀ k w, k < x_n X → pm k = true → ∀ d c fu, d + c = x_c X k → d < fu → ∀ c4, kb_PM_train_238 N c4 fu σ (nI (w + wcc (V k) c)) (nI k) (nI c) = c4 σ (nI (w + wcc (V k) (x_c X k))) (nI (k + 1)) := by
    intro k w hk pk d
    have cb := (xc_b ok hk).2
    have p8 : σ.2.2.1 8 k = bI (pm k = true) := h.2.2.1 k (by omega)
    induction d with
    | zero =>
      intro c fu hd hf c4
      obtain ⟨f', rfl⟩ : ∃ f', fu = f' + 1 := ⟨fu - 1, by omega⟩
      have : c = x_c X k := by omega
      subst this
      rw [kb_PM_train_238, mj_tab_nI (by omega) (by omega), Option.bind_some, p8, bI_t pk, if_neg (by decide), rn_cells h.1 ok hN hk, kk_some, if_pos (Int32.le_refl _)]
      unfold kb_PM_train_291
      rw [nI_1]
    | succ d ih =>
      intro c fu hd hf c4
      obtain ⟨f', rfl⟩ : ∃ f', fu = f' + 1 := ⟨fu - 1, by omega⟩
      have g := ih (c + 1) f' (by omega) (by omega) c4
      have vk := (h.2.1 k hk (hp k pk).2 c (by omega)).2
      rw [kb_PM_train_238, mj_tab_nI (by omega) (by omega), Option.bind_some, p8, bI_t pk, if_neg (by decide), rn_cells h.1 ok hN hk, kk_some, if_neg (by rw [nI_leI (by omega) (by omega)]; omega), n64, mj_tabL_nI (by omega) (by omega), Option.bind_some, vk]
      unfold kb_PM_train_283
      rw [show wcc (V k) (c + 1) = wcc (V k) c + if V k c = none then 1 else 0 from rfl] at g
      by_cases z : V k c = none
      · rw [if_pos z] at g
        rw [if_pos (by rw [zL_0, zg_eq (rg_pQ (gV _ _)) rg_0]; exact pQ_0.mpr z), nI_1, nI_1]
        exact g
      · rw [if_neg z] at g
        rw [if_neg (by rw [zL_0, zg_eq (rg_pQ (gV _ _)) rg_0]; exact fun q => z (pQ_0.mp q)), nI_1, show (0 : Int32) = nI 0 from rfl, nI_add]
        exact g
  have outer : ∀ d k fu, d + k = x_n X → d < fu → kb_PM_train_226 N fu σ (nI (wcn X V pm k)) (nI k) = some (nI (wcn X V pm (x_n X)), σ) := by
    intro d
    induction d with
    | zero =>
      intro k fu hd hf
      obtain ⟨f', rfl⟩ : ∃ f', fu = f' + 1 := ⟨fu - 1, by omega⟩
      have : k = x_n X := by omega
      subst this
      rw [kb_PM_train_226, h.1.1, if_pos (Int32.le_refl _)]
    | succ d ih =>
      intro k fu hd hf
      obtain ⟨f', rfl⟩ : ∃ f', fu = f' + 1 := ⟨fu - 1, by omega⟩
      have hk : k < x_n X := by omega
      have cb := (xc_b ok hk).2
      have g := ih (k + 1) f' (by omega) (by omega)
      rw [show wcn X V pm (k + 1) = wcn X V pm k + if pm k = true then wcc (V k) (x_c X k) else 0 from rfl] at g
      rw [kb_PM_train_226, h.1.1, if_neg (by rw [nI_leI (by omega) (by omega)]; omega)]
      by_cases pk : pm k = true
      · rw [if_pos pk] at g
        have := inner k (wcn X V pm k) hk pk (x_c X k) 0 N (by omega) (by omega) (kb_PM_train_226 N f')
        exact this.trans g
      · rw [if_neg pk] at g
        have p8 : σ.2.2.1 8 k = bI (pm k = true) := h.2.2.1 k (by omega)
        obtain ⟨N', hN'⟩ : ∃ N', N = N' + 1 := ⟨N - 1, by omega⟩
        have st : ∀ c4, kb_PM_train_238 N c4 N σ (nI (wcn X V pm k)) (nI k) 0 = c4 σ (nI (wcn X V pm k)) (nI (k + 1)) := fun c4 => by
          conv => lhs; arg 3; rw [hN']
          rw [kb_PM_train_238, mj_tab_nI (by omega) (by omega), Option.bind_some, p8, bI_f pk, if_pos rfl]
          unfold kb_PM_train_291
          rw [nI_1]
        rw [st]
        exact g
  exact outer (x_n X) 0 N (by omega) (by omega)
