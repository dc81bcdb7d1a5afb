/-! SCORES, 2: the share of pairs in order -/
def sm (f : Nat → Nat) : Nat → Nat
  | 0 => 0
  | n + 1 => sm f n + f n
theorem sm_le {f : Nat → Nat} {b : Nat} (h : ∀ k, f k ≤ b) : ∀ n : Nat, sm f n ≤ n * b
  | 0 => Nat.zero_le _
  | n + 1 => by
    have := sm_le h n
    have := h n
    simp only [sm]
    rw [Nat.add_mul, Nat.one_mul]
    omega
def hv (m : Nat → Int32) (t : Nat → Bool) (i k : Nat) : Nat := if t i = true ∧ t k = false then (if m i ≤ m k then (if m i = m k then 1 else 0) else 2) else 0
theorem hv_le (m : Nat → Int32) (t : Nat → Bool) (i k : Nat) : hv m t i k ≤ 2 := by
  unfold hv
  split
  · split
    · split <;> omega
    · omega
  · omega
def hvs (n : Nat) (m : Nat → Int32) (t : Nat → Bool) (i : Nat) : Nat := sm (hv m t i) n
theorem hvs_le {n : Nat} (hn : n ≤ 40) (m : Nat → Int32) (t : Nat → Bool) (i : Nat) : hvs n m t i ≤ 80 := by
  have := sm_le (hv_le m t i) n
  unfold hvs
  omega
theorem hvt_le {n : Nat} (hn : n ≤ 40) (m : Nat → Int32) (t : Nat → Bool) {r : Nat} (hr : r ≤ n) : sm (hvs n m t) r ≤ 3200 := by
  have := sm_le (hvs_le hn m t) r
  omega
theorem sc_in {N : Nat} {n : Nat} {m : Nat → Int32} {t : Nat → Bool} {τ : kS} (hT : scV n m t τ) (c4 : kS → Int32 → Int32 → Option (Int64 × kS)) {i : Nat} (hi : i < n) (a : Nat) : ∀ (d k fu : Nat), d + k = n → d < fu →
    kb_Sc_shareInOrder_14 N c4 fu τ (nI (a + sm (hv m t i) k)) (nI i) (nI k) = c4 τ (nI (a + hvs n m t i)) (nI (i + 1)) := by
  obtain ⟨hn, hsz, hrow⟩ := hT
  obtain ⟨i0, i1⟩ := hrow i hi
  intro d
  induction d with
  | zero =>
    intro k fu hd hf
    obtain ⟨f', rfl⟩ : ∃ f', fu = f' + 1 := ⟨fu - 1, by omega⟩
    have hr : k = n := by omega
    subst hr
    rw [kb_Sc_shareInOrder_14, hsz, if_pos (by rw [nI_leI (by omega) (by omega)]; omega), nI_1]
    rfl
  | succ d ih =>
    intro k fu hd hf
    obtain ⟨f', rfl⟩ : ∃ f', fu = f' + 1 := ⟨fu - 1, by omega⟩
    obtain ⟨h0, h1⟩ := hrow k (by omega)
    have ih2 := ih (k + 1) f' (by omega) (by omega)
    have es : sm (hv m t i) (k + 1) = sm (hv m t i) k + hv m t i k := rfl
    rw [es, ← Nat.add_assoc] at ih2
    rw [kb_Sc_shareInOrder_14, hsz, if_neg (by rw [nI_leI (by omega) (by omega)]; omega)]
    unfold kb_Sc_shareInOrder_80 kb_Sc_shareInOrder_82
    simp only [mj_tab_nI (f := τ.2.2.1 1) (n := 40) (show i < 40 by omega) (by omega), mj_tab_nI (f := τ.2.2.1 0) (n := 40) (show i < 40 by omega) (by omega), mj_tab_nI (f := τ.2.2.1 1) (n := 40) (show k < 40 by omega) (by omega), mj_tab_nI (f := τ.2.2.1 0) (n := 40) (show k < 40 by omega) (by omega), Option.bind_some, i0, i1, h0, h1, nI_1, Int32.add_zero]
    rw [← ih2]
    unfold hv
    cases ti : t i with
    | false => rw [if_pos (by decide)]; simp
    | true =>
      rw [if_neg (by decide)]
      cases tk : t k with
      | true => rw [if_neg (by decide)]; simp
      | false =>
        rw [if_pos (by decide)]
        by_cases q : m i ≤ m k
        · rw [if_pos q]
          by_cases q2 : m i = m k
          · rw [if_pos q2]; simp [q2]
          · rw [if_neg q2]; simp [q, q2]
        · rw [if_neg q]
          simp only [q]
          simp
          rw [show (2 : Int32) = nI 2 from rfl, nI_add]
theorem ps_in {N : Nat} {n : Nat} {m : Nat → Int32} {t : Nat → Bool} {σ : kS} (hT : psV n m t σ) (c4 : kS → Int64 → Int32 → Option (Unit × kS)) {i : Nat} (hi : i < n) (a : Nat) : ∀ (d k fu : Nat), d + k = n → d < fu →
    kb_PM_sides_15 N c4 fu σ (zL ((a + sm (hv m t i) k : Nat) : Int)) (nI i) (nI k) = c4 σ (zL ((a + hvs n m t i : Nat) : Int)) (nI (i + 1)) := by
  obtain ⟨hn, hsz, hrow⟩ := hT
  obtain ⟨i0, i1⟩ := hrow i hi
  intro d
  induction d with
  | zero =>
    intro k fu hd hf
    obtain ⟨f', rfl⟩ : ∃ f', fu = f' + 1 := ⟨fu - 1, by omega⟩
    have hr : k = n := by omega
    subst hr
    rw [kb_PM_sides_15, hsz, if_pos (by rw [nI_leI (by omega) (by omega)]; omega), nI_1]
    rfl
  | succ d ih =>
    intro k fu hd hf
    obtain ⟨f', rfl⟩ : ∃ f', fu = f' + 1 := ⟨fu - 1, by omega⟩
    obtain ⟨h0, h1⟩ := hrow k (by omega)
    have ih2 := ih (k + 1) f' (by omega) (by omega)
    have es : sm (hv m t i) (k + 1) = sm (hv m t i) k + hv m t i k := rfl
    rw [es, ← Nat.add_assoc] at ih2
    rw [kb_PM_sides_15, hsz, if_neg (by rw [nI_leI (by omega) (by omega)]; omega)]
    unfold kb_PM_sides_87 kb_PM_sides_89
    rw [show (1 : Int64) = zL 1 from rfl, show (0 : Int64) = zL 0 from rfl, show (2 : Int64) = zL 2 from rfl]
    simp only [mj_tab_nI (f := σ.2.2.1 30) (n := 40) (show i < 40 by omega) (by omega), mj_tab_nI (f := σ.2.2.1 29) (n := 40) (show i < 40 by omega) (by omega), mj_tab_nI (f := σ.2.2.1 30) (n := 40) (show k < 40 by omega) (by omega), mj_tab_nI (f := σ.2.2.1 29) (n := 40) (show k < 40 by omega) (by omega), Option.bind_some, i0, i1, h0, h1, nI_1, zL_add]
    rw [← ih2]
    unfold hv
    cases ti : t i with
    | false => rw [if_pos (by decide)]; simp
    | true =>
      rw [if_neg (by decide)]
      cases tk : t k with
      | true => rw [if_neg (by decide)]; simp
      | false =>
        rw [if_pos (by decide)]
        by_cases q : m i ≤ m k
        · rw [if_pos q]
          by_cases q2 : m i = m k
          · rw [if_pos q2]; simp [q2]
          · rw [if_neg q2]; simp [q, q2]
        · rw [if_neg q]
          simp only [q]
          simp
def fside (n : Nat) (m : Nat → Int32) (t : Nat → Bool) : Option Rat := fo ((sm (hvs n m t) n : Nat) : Int) (2 * ((cnt t n : Nat) : Int) * ((n - cnt t n : Nat) : Int))
theorem sd_rg {n : Nat} (hn : n ≤ 40) (t : Nat → Bool) : rg (2 * ((cnt t n : Nat) : Int) * ((n - cnt t n : Nat) : Int)) := by
  have h := cnt_le t n
  have e : 2 * ((cnt t n : Nat) : Int) * ((n - cnt t n : Nat) : Int) = ((2 * cnt t n * (n - cnt t n) : Nat) : Int) := by
    rw [Int.natCast_mul, Int.natCast_mul]
    rfl
  have c : 2 * cnt t n * (n - cnt t n) ≤ 80 * 40 := Nat.mul_le_mul (by omega) (by omega)
  rw [e]
  exact rg_nat (by omega)
theorem sc_sides {N : Nat} (hN : 100 ≤ N) {n : Nat} {m : Nat → Int32} {t : Nat → Bool} {τ : kS} (hT : scV n m t τ) : kf_Sc_shareInOrder N τ = some (en (fside n m t), τ) := by
  have hn := hT.1
  have hsz := hT.2.1
  have lp : ∀ (d r fu : Nat), d + r = n → d < fu → kb_Sc_shareInOrder_4 N fu τ (nI (sm (hvs n m t) r)) (nI r) = some (en (fside n m t), τ) := by
    intro d
    induction d with
    | zero =>
      intro r fu hd hf
      obtain ⟨f', rfl⟩ : ∃ f', fu = f' + 1 := ⟨fu - 1, by omega⟩
      have hr : r = n := by omega
      subst hr
      have hc := cnt_le t r
      have hb := hvt_le hn m t (Nat.le_refl r)
      rw [kb_Sc_shareInOrder_4, hsz, if_pos (by rw [nI_leI (by omega) (by omega)]; omega), sc_yes hN hT, kk_some, hsz, nI_sub hc, n2l (by omega), n2l (by omega), n2l (by omega), zL_2, zL_mul, zL_mul, kf_of hN (rg_nat (by omega)) (sd_rg hn t)]
      rfl
    | succ d ih =>
      intro r fu hd hf
      obtain ⟨f', rfl⟩ : ∃ f', fu = f' + 1 := ⟨fu - 1, by omega⟩
      rw [kb_Sc_shareInOrder_4, hsz, if_neg (by rw [nI_leI (by omega) (by omega)]; omega)]
      have := sc_in (N := N) hT (kb_Sc_shareInOrder_4 N f') (i := r) (by omega) (sm (hvs n m t) r) n 0 N (by omega) (by omega)
      exact this.trans (ih (r + 1) f' (by omega) (by omega))
  exact lp n 0 N (by omega) (by omega)
theorem ps_sides {N : Nat} (hN : 100 ≤ N) {n : Nat} {m : Nat → Int32} {t : Nat → Bool} {σ : kS} (hT : psV n m t σ) : kf_PM_sides N σ = some ((), kPQ σ (fside n m t)) := by
  have hn := hT.1
  have hsz := hT.2.1
  have lp : ∀ (d r fu : Nat), d + r = n → d < fu → kb_PM_sides_4 N fu σ (zL ((sm (hvs n m t) r : Nat) : Int)) (nI r) = some ((), kPQ σ (fside n m t)) := by
    intro d
    induction d with
    | zero =>
      intro r fu hd hf
      obtain ⟨f', rfl⟩ : ∃ f', fu = f' + 1 := ⟨fu - 1, by omega⟩
      have hr : r = n := by omega
      subst hr
      have hc := cnt_le t r
      have hb := hvt_le hn m t (Nat.le_refl r)
      rw [kb_PM_sides_4, hsz, if_pos (by rw [nI_leI (by omega) (by omega)]; omega), ps_yes hN hT, kk_some, ps_yes hN hT, kk_some, hsz, nI_sub hc, n2l (by omega), n2l (by omega), zL_2, zL_mul, zL_mul, kp_least hN σ (rg_nat (by omega)) (sd_rg hn t)]
      rfl
    | succ d ih =>
      intro r fu hd hf
      obtain ⟨f', rfl⟩ : ∃ f', fu = f' + 1 := ⟨fu - 1, by omega⟩
      rw [kb_PM_sides_4, hsz, if_neg (by rw [nI_leI (by omega) (by omega)]; omega)]
      have := ps_in (N := N) hT (kb_PM_sides_4 N f') (i := r) (by omega) (sm (hvs n m t) r) n 0 N (by omega) (by omega)
      exact this.trans (ih (r + 1) f' (by omega) (by omega))
  exact lp n 0 N (by omega) (by omega)
