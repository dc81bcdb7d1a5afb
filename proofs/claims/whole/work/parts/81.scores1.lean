/-! SCORES, 1: pairs, counts -/
def bb (b : Bool) : Int32 := if b then 1 else 0
def cnt (P : Nat → Bool) : Nat → Nat
  | 0 => 0
  | n + 1 => cnt P n + (if P n then 1 else 0)
theorem cnt_t {P : Nat → Bool} {n : Nat} (h : P n = true) : cnt P (n + 1) = cnt P n + 1 := by simp [cnt, h]
theorem cnt_f {P : Nat → Bool} {n : Nat} (h : P n = false) : cnt P (n + 1) = cnt P n := by simp [cnt, h]
theorem cnt_le (P : Nat → Bool) : ∀ n : Nat, cnt P n ≤ n
  | 0 => Nat.le_refl 0
  | n + 1 => by
    have := cnt_le P n
    simp only [cnt]
    split <;> omega
theorem bb_0 {b : Bool} : bb b = 0 ↔ b = false := by cases b <;> decide
def scV (n : Nat) (m : Nat → Int32) (t : Nat → Bool) (τ : kS) : Prop := n ≤ 40 ∧ τ.1 2 = nI n ∧ ∀ r, r < n → τ.2.2.1 0 r = m r ∧ τ.2.2.1 1 r = bb (t r)
def psV (n : Nat) (m : Nat → Int32) (t : Nat → Bool) (σ : kS) : Prop := n ≤ 40 ∧ σ.1 28 = nI n ∧ ∀ r, r < n → σ.2.2.1 29 r = m r ∧ σ.2.2.1 30 r = bb (t r)
theorem psV_fr {n : Nat} {m : Nat → Int32} {t : Nat → Bool} {σ s : kS} {I L A B : List Nat} (h : kfr I L A B σ s) (hI : 28 ∉ I) (h1 : 29 ∉ A) (h2 : 30 ∉ A) (g : psV n m t σ) : psV n m t s := by
  refine ⟨g.1, (h.1 28 hI).trans g.2.1, fun r hr => ⟨?_, ?_⟩⟩
  · rw [h.2.2.1 29 h1]
    exact (g.2.2 r hr).1
  · rw [h.2.2.1 30 h2]
    exact (g.2.2 r hr).2
def R_Sc (τ σ : kS) : Prop := ∃ (n : Nat) (m : Nat → Int32) (t : Nat → Bool), scV n m t τ ∧ psV n m t σ
theorem R_Sc_fr {τ σ s : kS} {I L A B : List Nat} (h : kfr I L A B σ s) (hI : 28 ∉ I) (h1 : 29 ∉ A) (h2 : 30 ∉ A) (g : R_Sc τ σ) : R_Sc τ s := by
  obtain ⟨n, m, t, g1, g2⟩ := g
  exact ⟨n, m, t, g1, psV_fr h hI h1 h2 g2⟩
abbrev fSc (σ s : kS) : Prop := kfr [28] [0, 1] [29, 30] [] σ s
theorem nar_01 (v : Int32) : vp_nar .boolean v = 0 ∨ vp_nar .boolean v = 1 := by
  unfold vp_nar narrow
  show v &&& 1 = 0 ∨ v &&& 1 = 1
  have h : (v &&& 1).toBitVec = v.toBitVec &&& 1#32 := rfl
  have h2 : v.toBitVec &&& 1#32 = 0#32 ∨ v.toBitVec &&& 1#32 = 1#32 := by
    have e : (v.toBitVec &&& 1#32).toNat = v.toBitVec.toNat % 2 := by
      rw [BitVec.toNat_and]
      exact Nat.and_one_is_mod _
    rcases Nat.mod_two_eq_zero_or_one v.toBitVec.toNat with q | q
    · left
      apply BitVec.eq_of_toNat_eq
      rw [e, q]
      rfl
    · right
      apply BitVec.eq_of_toNat_eq
      rw [e, q]
      rfl
  rcases h2 with q | q
  · left
    apply Int32.toBitVec_inj.mp
    rw [h, q]
    rfl
  · right
    apply Int32.toBitVec_inj.mp
    rw [h, q]
    rfl
theorem nar_bb (v : Int32) : ∃ b, vp_nar .boolean v = bb b := by
  have h : vp_nar .boolean v = 0 ∨ vp_nar .boolean v = 1 := nar_01 v
  rcases h with h | h
  · exact ⟨false, h⟩
  · exact ⟨true, h⟩
theorem op_forget (N : Nat) {τ σ : kS} (h : R_Sc τ σ) : ∃ r τ2 s, kf_Sc_dropAll N τ = some (r, τ2) ∧ kf_PM_forget N σ = some (r, s) ∧ R_Sc τ2 s ∧ fSc σ s := by
  obtain ⟨n, m, t, g1, g2⟩ := h
  refine ⟨nI n, kI τ 2 0, kI σ 28 0, ?_, ?_, ⟨0, m, t, ⟨by omega, rfl, fun r hr => absurd hr (by omega)⟩, ⟨by omega, rfl, fun r hr => absurd hr (by omega)⟩⟩, kfr_I (by decide)⟩
  · unfold kf_Sc_dropAll kb_Sc_dropAll_0 kk_let
    rw [g1.2.1]
  · unfold kf_PM_forget kb_PM_forget_0 kk_let
    rw [g2.2.1]
theorem op_pair (N : Nat) {τ σ : kS} (h : R_Sc τ σ) (a v : Int32) : ∃ r τ2 s, kf_Sc_addPair N τ a v = some (r, τ2) ∧ kf_PM_pair N σ a v = some (r, s) ∧ R_Sc τ2 s ∧ fSc σ s := by
  obtain ⟨n, m, t, g1, g2⟩ := h
  have keep : R_Sc τ σ := ⟨n, m, t, g1, g2⟩
  obtain ⟨hn, hsz, hrow⟩ := g1
  obtain ⟨_, hsz2, hrow2⟩ := g2
  obtain ⟨b, hb⟩ := nar_bb v
  unfold kf_Sc_addPair kb_Sc_addPair_0 kf_PM_pair kb_PM_pair_0
  by_cases hf : n < 40
  case neg =>
    have : n = 40 := by omega
    subst this
    rw [if_neg (by rw [hsz]; decide), if_pos (by rw [hsz2]; rfl)]
    exact ⟨_, _, _, rfl, rfl, keep, kfr_refl _ _ _ _ _⟩
  have n40 : nI n < 40 := by rw [show (40 : Int32) = nI 40 from rfl, nI_ltI (by omega) (by omega)]; omega
  have n40' : ¬ nI n = 40 := by rw [show (40 : Int32) = nI 40 from rfl, nI_eq (by omega) (by omega)]; omega
  simp only [kk_let, kA_1, hsz, hsz2, hb]
  rw [if_pos n40, if_neg n40', mj_gd_nI (by omega) (by omega), mj_gd_nI (by omega) (by omega), mj_gd_nI (by omega) (by omega), mj_gd_nI (by omega) (by omega)]
  simp only [nI_clamp (show n < 2 ^ 31 by omega), nI_1]
  refine ⟨nI (n + 1), _, _, rfl, rfl, ⟨n + 1, fun r => if r = n then a else m r, fun r => if r = n then b else t r, ⟨by omega, rfl, ?_⟩, ⟨by omega, rfl, ?_⟩⟩, ?_⟩
  · intro r hr
    simp only [kI_2, kA_3]
    by_cases er : r = n
    · simp [er]
    · simp [er]
      exact hrow r (by omega)
  · intro r hr
    simp only [kI_2, kA_3]
    by_cases er : r = n
    · simp [er]
    · simp [er]
      exact hrow2 r (by omega)
  · exact kfr_trans (kfr_trans (kfr_A (by decide)) (kfr_A (by decide))) (kfr_I (by decide))
theorem sc_yes {N : Nat} (hN : 100 ≤ N) {n : Nat} {m : Nat → Int32} {t : Nat → Bool} {τ : kS} (hT : scV n m t τ) : kf_Sc_countYes N τ = some (nI (cnt t n), τ) := by
  obtain ⟨hn, hsz, hrow⟩ := hT
  have lp : ∀ (d r fu : Nat), d + r = n → d < fu → kb_Sc_countYes_4 N fu τ (nI (cnt t r)) (nI r) = some (nI (cnt t n), τ) := by
    intro d
    induction d with
    | zero =>
      intro r fu hd hf
      obtain ⟨f', rfl⟩ : ∃ f', fu = f' + 1 := ⟨fu - 1, by omega⟩
      have hr : r = n := by omega
      subst hr
      rw [kb_Sc_countYes_4, hsz, if_pos (by rw [nI_leI (by omega) (by omega)]; omega)]
    | succ d ih =>
      intro r fu hd hf
      obtain ⟨f', rfl⟩ : ∃ f', fu = f' + 1 := ⟨fu - 1, by omega⟩
      obtain ⟨h0, h1⟩ := hrow r (by omega)
      have ih2 := ih (r + 1) f' (by omega) (by omega)
      rw [kb_Sc_countYes_4, hsz, if_neg (by rw [nI_leI (by omega) (by omega)]; omega)]
      unfold kb_Sc_countYes_24
      rw [mj_tab_nI (by omega) (by omega), Option.bind_some, h1, nI_1, nI_1]
      cases hb : t r with
      | true =>
        rw [if_neg (by decide), ← ih2, cnt_t hb]
      | false =>
        rw [if_pos (by decide), ← ih2, cnt_f hb]
  exact lp n 0 N (by omega) (by omega)
theorem ps_yes {N : Nat} (hN : 100 ≤ N) {n : Nat} {m : Nat → Int32} {t : Nat → Bool} {σ : kS} (hT : psV n m t σ) : kf_PM_yes N σ = some (nI (cnt t n), σ) := by
  obtain ⟨hn, hsz, hrow⟩ := hT
  have lp : ∀ (d r fu : Nat), d + r = n → d < fu → kb_PM_yes_4 N fu σ (nI (cnt t r)) (nI r) = some (nI (cnt t n), σ) := by
    intro d
    induction d with
    | zero =>
      intro r fu hd hf
      obtain ⟨f', rfl⟩ : ∃ f', fu = f' + 1 := ⟨fu - 1, by omega⟩
      have hr : r = n := by omega
      subst hr
      rw [kb_PM_yes_4, hsz, if_pos (by rw [nI_leI (by omega) (by omega)]; omega)]
    | succ d ih =>
      intro r fu hd hf
      obtain ⟨f', rfl⟩ : ∃ f', fu = f' + 1 := ⟨fu - 1, by omega⟩
      obtain ⟨h0, h1⟩ := hrow r (by omega)
      have ih2 := ih (r + 1) f' (by omega) (by omega)
      rw [kb_PM_yes_4, hsz, if_neg (by rw [nI_leI (by omega) (by omega)]; omega)]
      unfold kb_PM_yes_27
      rw [mj_tab_nI (by omega) (by omega), Option.bind_some, h1, Int32.add_zero]
      cases hb : t r with
      | true =>
        rw [if_neg (by decide), nI_1, nI_1, ← ih2, cnt_t hb]
      | false =>
        rw [if_pos (by decide), nI_1, ← ih2, cnt_f hb]
  exact lp n 0 N (by omega) (by omega)
theorem sc_below {N : Nat} (hN : 100 ≤ N) {n : Nat} {m : Nat → Int32} {t : Nat → Bool} {τ : kS} (hT : scV n m t τ) (v : Int32) : kf_Sc_countNotBelow N τ v = some (nI (cnt (fun k => decide (v ≤ m k)) n), τ) := by
  obtain ⟨hn, hsz, hrow⟩ := hT
  have lp : ∀ (d r fu : Nat), d + r = n → d < fu → kb_Sc_countNotBelow_4 N fu τ v (nI (cnt (fun k => decide (v ≤ m k)) r)) (nI r) = some (nI (cnt (fun k => decide (v ≤ m k)) n), τ) := by
    intro d
    induction d with
    | zero =>
      intro r fu hd hf
      obtain ⟨f', rfl⟩ : ∃ f', fu = f' + 1 := ⟨fu - 1, by omega⟩
      have hr : r = n := by omega
      subst hr
      rw [kb_Sc_countNotBelow_4, hsz, if_pos (by rw [nI_leI (by omega) (by omega)]; omega)]
    | succ d ih =>
      intro r fu hd hf
      obtain ⟨f', rfl⟩ : ∃ f', fu = f' + 1 := ⟨fu - 1, by omega⟩
      obtain ⟨h0, h1⟩ := hrow r (by omega)
      have ih2 := ih (r + 1) f' (by omega) (by omega)
      rw [kb_Sc_countNotBelow_4, hsz, if_neg (by rw [nI_leI (by omega) (by omega)]; omega)]
      unfold kb_Sc_countNotBelow_25
      rw [mj_tab_nI (by omega) (by omega), Option.bind_some, h0, nI_1, nI_1]
      by_cases hb : v ≤ m r
      · rw [if_neg (Int32.not_lt.mpr hb), ← ih2, cnt_t (decide_eq_true hb)]
      · rw [if_pos (Int32.not_le.mp hb), ← ih2, cnt_f (decide_eq_false hb)]
  exact lp n 0 N (by omega) (by omega)
theorem sc_found {N : Nat} (hN : 100 ≤ N) {n : Nat} {m : Nat → Int32} {t : Nat → Bool} {τ : kS} (hT : scV n m t τ) (v : Int32) : kf_Sc_countYesToldYes N τ v = some (nI (cnt (fun k => t k && decide (v ≤ m k)) n), τ) := by
  obtain ⟨hn, hsz, hrow⟩ := hT
  have lp : ∀ (d r fu : Nat), d + r = n → d < fu → kb_Sc_countYesToldYes_4 N fu τ v (nI (cnt (fun k => t k && decide (v ≤ m k)) r)) (nI r) = some (nI (cnt (fun k => t k && decide (v ≤ m k)) n), τ) := by
    intro d
    induction d with
    | zero =>
      intro r fu hd hf
      obtain ⟨f', rfl⟩ : ∃ f', fu = f' + 1 := ⟨fu - 1, by omega⟩
      have hr : r = n := by omega
      subst hr
      rw [kb_Sc_countYesToldYes_4, hsz, if_pos (by rw [nI_leI (by omega) (by omega)]; omega)]
    | succ d ih =>
      intro r fu hd hf
      obtain ⟨f', rfl⟩ : ∃ f', fu = f' + 1 := ⟨fu - 1, by omega⟩
      obtain ⟨h0, h1⟩ := hrow r (by omega)
      have ih2 := ih (r + 1) f' (by omega) (by omega)
      rw [kb_Sc_countYesToldYes_4, hsz, if_neg (by rw [nI_leI (by omega) (by omega)]; omega)]
      unfold kb_Sc_countYesToldYes_34
      rw [mj_tab_nI (by omega) (by omega), Option.bind_some, h1, mj_tab_nI (by omega) (by omega), Option.bind_some, h0, nI_1, nI_1]
      cases ht : t r with
      | true =>
        rw [if_neg (by decide)]
        by_cases hb : v ≤ m r
        · rw [if_neg (Int32.not_lt.mpr hb), ← ih2, cnt_t (by simp [ht, hb])]
        · rw [if_pos (Int32.not_le.mp hb), ← ih2, cnt_f (by simp [ht, hb])]
      | false =>
        rw [if_pos (by decide), ← ih2, cnt_f (by simp [ht])]
  exact lp n 0 N (by omega) (by omega)
theorem sc_right {N : Nat} (hN : 100 ≤ N) {n : Nat} {m : Nat → Int32} {t : Nat → Bool} {τ : kS} (hT : scV n m t τ) (v : Int32) : kf_Sc_countRight N τ v = some (nI (cnt (fun k => decide (v ≤ m k) == t k) n), τ) := by
  obtain ⟨hn, hsz, hrow⟩ := hT
  have lp : ∀ (d r fu : Nat), d + r = n → d < fu → kb_Sc_countRight_4 N fu τ v (nI (cnt (fun k => decide (v ≤ m k) == t k) r)) (nI r) = some (nI (cnt (fun k => decide (v ≤ m k) == t k) n), τ) := by
    intro d
    induction d with
    | zero =>
      intro r fu hd hf
      obtain ⟨f', rfl⟩ : ∃ f', fu = f' + 1 := ⟨fu - 1, by omega⟩
      have hr : r = n := by omega
      subst hr
      rw [kb_Sc_countRight_4, hsz, if_pos (by rw [nI_leI (by omega) (by omega)]; omega)]
    | succ d ih =>
      intro r fu hd hf
      obtain ⟨f', rfl⟩ : ∃ f', fu = f' + 1 := ⟨fu - 1, by omega⟩
      obtain ⟨h0, h1⟩ := hrow r (by omega)
      have ih2 := ih (r + 1) f' (by omega) (by omega)
      rw [kb_Sc_countRight_4, hsz, if_neg (by rw [nI_leI (by omega) (by omega)]; omega)]
      unfold kb_Sc_countRight_27 kb_Sc_countRight_39
      rw [mj_tab_nI (by omega) (by omega), Option.bind_some, h0, mj_tab_nI (by omega) (by omega), Option.bind_some, Option.bind_some, h1, nI_1, nI_1]
      by_cases hb : v ≤ m r
      · rw [if_neg (Int32.not_lt.mpr hb)]
        cases ht : t r with
        | true => rw [if_pos (by decide), ← ih2, cnt_t (by simp [ht, hb])]
        | false => rw [if_neg (by decide), ← ih2, cnt_f (by simp [ht, hb])]
      · rw [if_pos (Int32.not_le.mp hb)]
        cases ht : t r with
        | true => rw [if_neg (by decide), ← ih2, cnt_f (by simp [ht, hb])]
        | false => rw [if_pos (by decide), ← ih2, cnt_t (by simp [ht, hb])]
  exact lp n 0 N (by omega) (by omega)
