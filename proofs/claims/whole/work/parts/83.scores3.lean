/-! SCORES, 3: the mean of places -/
def nb (n : Nat) (m : Nat → Int32) (v : Int32) : Nat := cnt (fun k => decide (v ≤ m k)) n
theorem cnt_pos {P : Nat → Bool} {i : Nat} (h : P i = true) : ∀ n : Nat, i < n → 0 < cnt P n
  | 0, hi => absurd hi (by omega)
  | n + 1, hi => by
    by_cases e : i = n
    · subst e
      rw [cnt_t h]
      omega
    · have := cnt_pos h n (by omega)
      simp only [cnt]
      omega
theorem nb_b {n : Nat} (m : Nat → Int32) {i : Nat} (hi : i < n) : 0 < nb n m (m i) ∧ nb n m (m i) ≤ n := ⟨cnt_pos (decide_eq_true (Int32.le_refl _)) n hi, cnt_le _ _⟩
theorem fo_inv {r : Nat} (h0 : 0 < r) (h1 : r ≤ 40) : fG (fo 1 (r : Int)) ∧ pP (fo 1 (r : Int)) = 1 ∧ pQ (fo 1 (r : Int)) = r := by
  refine ⟨fG_fo _ _, ?_⟩
  have hr : (r : Int) ≠ 0 := by omega
  rw [fo_some hr (by omega) (by omega)]
  have g : Nat.gcd (1 : Int).natAbs (r : Int).natAbs = 1 := Nat.gcd_one_left _
  refine ⟨?_, ?_⟩
  · show (Rat.divInt 1 r).num = 1
    rw [di_num hr, if_neg (by omega), g]
    rfl
  · show ((Rat.divInt 1 r).den : Int) = r
    rw [di_den hr, if_neg (by omega), g, tdiv_nat, Nat.div_one]
def frk (n : Nat) (m : Nat → Int32) (t : Nat → Bool) : Nat → Option Rat
  | 0 => some 0
  | i + 1 => if t i = true then fadd (frk n m t i) (fo 1 ((nb n m (m i) : Nat) : Int)) else frk n m t i
theorem fG_frk (n : Nat) (m : Nat → Int32) (t : Nat → Bool) : ∀ i, fG (frk n m t i)
  | 0 => fG_Z
  | i + 1 => by
    unfold frk
    split
    · exact fG_add _ _
    · exact fG_frk n m t i
def fnat (y : Nat) : Option Rat := fo (y : Int) 1
theorem fnat_s {y : Nat} (h : y ≤ 2147483647) : fG (fnat y) ∧ pP (fnat y) = y ∧ pQ (fnat y) = 1 := by
  refine ⟨fG_fo _ _, ?_⟩
  unfold fnat
  rw [fo_some (by decide) (by omega) (by decide)]
  have g : Nat.gcd (y : Int).natAbs (1 : Int).natAbs = 1 := Nat.gcd_one_right _
  refine ⟨?_, ?_⟩
  · show (Rat.divInt y 1).num = y
    rw [di_num (by decide), if_neg (by decide), g]
    exact Int.tdiv_one _
  · show ((Rat.divInt y 1).den : Int) = 1
    rw [di_den (by decide), if_neg (by decide), g]
    rfl
def fmean (n : Nat) (m : Nat → Int32) (t : Nat → Bool) : Option Rat := fdiv (frk n m t n) (fnat (cnt t n))
theorem fdiv_inv (x y : Option Rat) : fdiv x y = fmul x (finv y) := by
  cases x with
  | none => rfl
  | some r =>
    cases y with
    | none => rfl
    | some s =>
      unfold fdiv finv
      by_cases h : s = 0
      · simp [h, fmul]
      · simp [h, fmul]
theorem kf_whole (N : Nat) {y : Nat} (h : y < 2147483648) : kf_Fr_whole N (nI y) = some (en (fnat y)) := by
  unfold kf_Fr_whole kb_Fr_whole_0
  obtain ⟨g1, g2, g3⟩ := fnat_s (y := y) (by omega)
  rw [n2l (by omega), show (1 : Int64) = zL 1 from rfl, kf_fit N (rg_nat (by omega)) rg_1, if_pos (by omega)]
  unfold en
  rw [g2, g3]
  rfl
theorem sc_mean {N : Nat} (hN : 100 ≤ N) {n : Nat} {m : Nat → Int32} {t : Nat → Bool} {τ : kS} (hT : scV n m t τ) : kf_Sc_meanOfPlaces N τ = some (en (fmean n m t), τ) := by
  have hT0 := hT
  obtain ⟨hn, hsz, hrow⟩ := hT
  have lp : ∀ (d r fu : Nat), d + r = n → d < fu → kb_Sc_meanOfPlaces_4 N fu τ (en (frk n m t r)) (nI r) = some (en (fmean n m t), τ) := by
    intro d
    induction d with
    | zero =>
      intro r fu hd hf
      obtain ⟨f', rfl⟩ : ∃ f', fu = f' + 1 := ⟨fu - 1, by omega⟩
      have hr : r = n := by omega
      subst hr
      have hc := cnt_le t r
      have g1 := (fnat_s (y := cnt t r) (by omega)).1
      rw [kb_Sc_meanOfPlaces_4, hsz, if_pos (by rw [nI_leI (by omega) (by omega)]; omega), sc_yes hN hT0, kk_some, kf_whole N (by omega), Option.bind_some, kf_inverse N g1, Option.bind_some, kf_times hN (fG_frk r m t r) (fG_inv g1), ← fdiv_inv]
      rfl
    | succ d ih =>
      intro r fu hd hf
      obtain ⟨f', rfl⟩ : ∃ f', fu = f' + 1 := ⟨fu - 1, by omega⟩
      obtain ⟨h0, h1⟩ := hrow r (by omega)
      have ih2 := ih (r + 1) f' (by omega) (by omega)
      obtain ⟨b1, b2⟩ := nb_b m (n := n) (i := r) (by omega)
      rw [kb_Sc_meanOfPlaces_4, hsz, if_neg (by rw [nI_leI (by omega) (by omega)]; omega)]
      unfold kb_Sc_meanOfPlaces_41
      rw [mj_tab_nI (by omega) (by omega), Option.bind_some, h1, mj_tab_nI (by omega) (by omega), Option.bind_some, h0, sc_below hN hT0, kk_some, nI_1, n2l (by unfold nb at *; omega), show (1 : Int64) = zL 1 from rfl]
      have e1 : kf_Fr_of N (zL 1) (zL ((cnt (fun k => decide (m r ≤ m k)) n : Nat) : Int)) = some (en (fo 1 ((nb n m (m r) : Nat) : Int))) := kf_of hN rg_1 (rg_nat (by unfold nb at *; omega))
      rw [e1, Option.bind_some, kf_add hN (fG_frk n m t r) (fG_fo _ _), Option.bind_some, ← ih2]
      cases hb : t r with
      | true => rw [if_neg (by decide)]; simp [frk, hb]
      | false => rw [if_pos (by decide)]; simp [frk, hb]
  have e : kf_Sc_meanOfPlaces N τ = kb_Sc_meanOfPlaces_4 N N τ (en (frk n m t 0)) (nI 0) := by
    show kf_Sc_meanOfPlaces N τ = kb_Sc_meanOfPlaces_4 N N τ (en (some 0)) (nI 0)
    rw [en_Z]
    rfl
  rw [e]
  exact lp n 0 N (by omega) (by omega)
theorem ps_rank {N : Nat} {n : Nat} {m : Nat → Int32} {t : Nat → Bool} {σ : kS} (hT : psV n m t σ) (c7 : kS → Int64 → Int64 → Int32 → Option (Unit × kS)) (v1 v3 : Int64) {i : Nat} (hi : i < n) : ∀ (d k fu : Nat), d + k = n → d < fu →
    kb_PM_ranks_35 N c7 fu σ v1 v3 (nI i) (nI (cnt (fun q => decide (m i ≤ m q)) k)) (nI k) = kk_call (kf_PM_plus N σ v1 v3 1 (zL ((nb n m (m i) : Nat) : Int))) fun _ s => c7 s (s.2.1 0) (s.2.1 1) (nI (i + 1)) := by
  obtain ⟨hn, hsz, hrow⟩ := hT
  obtain ⟨i0, i1⟩ := hrow i hi
  intro d
  induction d with
  | zero =>
    intro k fu hd hf
    obtain ⟨f', rfl⟩ : ∃ f', fu = f' + 1 := ⟨fu - 1, by omega⟩
    have hr : k = n := by omega
    subst hr
    have hc := cnt_le (fun q => decide (m i ≤ m q)) k
    rw [kb_PM_ranks_35, hsz, if_pos (by rw [nI_leI (by omega) (by omega)]; omega), n2l (by omega)]
    unfold kb_PM_ranks_97
    simp only [nI_1]
    rfl
  | succ d ih =>
    intro k fu hd hf
    obtain ⟨f', rfl⟩ : ∃ f', fu = f' + 1 := ⟨fu - 1, by omega⟩
    obtain ⟨h0, h1⟩ := hrow k (by omega)
    have ih2 := ih (k + 1) f' (by omega) (by omega)
    rw [kb_PM_ranks_35, hsz, if_neg (by rw [nI_leI (by omega) (by omega)]; omega), mj_tab_nI (by omega) (by omega), Option.bind_some, mj_tab_nI (by omega) (by omega), Option.bind_some, h0, i0]
    unfold kb_PM_ranks_68
    simp only [nI_1, Int32.add_zero]
    rw [← ih2]
    by_cases hb : m i ≤ m k
    · rw [if_neg (Int32.not_lt.mpr hb), cnt_t (P := fun q => decide (m i ≤ m q)) (decide_eq_true hb)]
    · rw [if_pos (Int32.not_le.mp hb), cnt_f (P := fun q => decide (m i ≤ m q)) (decide_eq_false hb)]
theorem ps_mean {N : Nat} (hN : 100 ≤ N) {n : Nat} {m : Nat → Int32} {t : Nat → Bool} {σ : kS} (hT : psV n m t σ) : ∃ s, kf_PM_ranks N σ = some ((), kPQ s (fmean n m t)) ∧ kfr [] [0, 1] [] [] σ s := by
  have lp : ∀ (d r fu : Nat) (σ : kS), psV n m t σ → d + r = n → d < fu → ∃ s, kb_PM_ranks_7 N fu σ (zL (pP (frk n m t r))) (zL (pQ (frk n m t r))) (nI r) = some ((), kPQ s (fmean n m t)) ∧ kfr [] [0, 1] [] [] σ s := by
    intro d
    induction d with
    | zero =>
      intro r fu σ hT hd hf
      obtain ⟨f', rfl⟩ : ∃ f', fu = f' + 1 := ⟨fu - 1, by omega⟩
      have hn := hT.1
      have hr : r = n := by omega
      subst hr
      have hc := cnt_le t r
      obtain ⟨g1, g2, g3⟩ := fnat_s (y := cnt t r) (by omega)
      have e := kp_over hN σ (fG_frk r m t r) g1
      rw [g2, g3] at e
      refine ⟨σ, ?_, kfr_refl _ _ _ _ _⟩
      rw [kb_PM_ranks_7, hT.2.1, if_pos (by rw [nI_leI (by omega) (by omega)]; omega), ps_yes hN hT, kk_some, n2l (by omega), show (1 : Int64) = zL 1 from rfl, e]
      rfl
    | succ d ih =>
      intro r fu σ hT hd hf
      obtain ⟨f', rfl⟩ : ∃ f', fu = f' + 1 := ⟨fu - 1, by omega⟩
      have hn := hT.1
      obtain ⟨h0, h1⟩ := hT.2.2 r (by omega)
      obtain ⟨b1, b2⟩ := nb_b m (n := n) (i := r) (by omega)
      rw [kb_PM_ranks_7, hT.2.1, if_neg (by rw [nI_leI (by omega) (by omega)]; omega), mj_tab_nI (by omega) (by omega), Option.bind_some, h1]
      unfold kb_PM_ranks_97
      rw [nI_1]
      cases hb : t r with
      | false =>
        rw [if_pos (by decide)]
        have := ih (r + 1) f' σ hT (by omega) (by omega)
        have ef : frk n m t (r + 1) = frk n m t r := by simp [frk, hb]
        rw [ef] at this
        exact this
      | true =>
        rw [if_neg (by decide)]
        have e1 := ps_rank (N := N) hT (kb_PM_ranks_7 N f') (zL (pP (frk n m t r))) (zL (pQ (frk n m t r))) (i := r) (by omega) n 0 N (by omega) (by omega)
        obtain ⟨g1, g2, g3⟩ := fo_inv b1 (by omega)
        have e2 := kp_plus hN σ (fG_frk n m t r) g1
        rw [g2, g3] at e2
        have e3 : kb_PM_ranks_35 N (kb_PM_ranks_7 N f') N σ (zL (pP (frk n m t r))) (zL (pQ (frk n m t r))) (nI r) 0 0 = kb_PM_ranks_7 N f' (kPQ σ (fadd (frk n m t r) (fo 1 ((nb n m (m r) : Nat) : Int)))) (zL (pP (fadd (frk n m t r) (fo 1 ((nb n m (m r) : Nat) : Int))))) (zL (pQ (fadd (frk n m t r) (fo 1 ((nb n m (m r) : Nat) : Int))))) (nI (r + 1)) := by
          refine e1.trans ?_
          rw [show (1 : Int64) = zL 1 from rfl, e2]
          rfl
        rw [e3]
        have ef : frk n m t (r + 1) = fadd (frk n m t r) (fo 1 ((nb n m (m r) : Nat) : Int)) := by simp [frk, hb]
        have fr : kfr [] [0, 1] [] [] σ (kPQ σ (fadd (frk n m t r) (fo 1 ((nb n m (m r) : Nat) : Int)))) := kfr_PQ (by decide) (by decide)
        obtain ⟨s, k1, k2⟩ := ih (r + 1) f' _ (psV_fr fr (by decide) (by decide) (by decide) hT) (by omega) (by omega)
        rw [ef] at k1
        exact ⟨s, k1, kfr_trans fr k2⟩
  exact lp n 0 N σ hT (by omega) (by have := hT.1; omega)
