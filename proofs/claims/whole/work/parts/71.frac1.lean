/-! FRACTIONS, 1: greatest common divisors on both sides -/
theorem nI_lit100 : (100 : Int32) = nI 100 := rfl
theorem rg_nat {n : Nat} (h : n < 9223372036854775808) : rg (n : Int) := ⟨by omega, by omega⟩
theorem tmod_nat (a b : Nat) : (a : Int).tmod (b : Int) = ((a % b : Nat) : Int) := (Int.ofNat_tmod a b).symm
theorem gcd_step (a b : Nat) : Nat.gcd b (a % b) = Nat.gcd a b := by
  rw [Nat.gcd_comm b (a % b), ← Nat.gcd_rec, Nat.gcd_comm]
theorem kg_loop (N : Nat) : ∀ (k a b n t : Nat), eu_E k a b → a < 9223372036854775808 → b < 9223372036854775808 → t + k < 100 → k < n → kb_Fr_gcd_31 N n (zL a) (zL b) (nI t) = kb_Fr_gcd_66 N (zL (Nat.gcd a b)) := by
  intro k
  induction k with
  | zero =>
    intro a b n t hE ha hb ht hn
    obtain ⟨n', rfl⟩ : ∃ n', n = n' + 1 := ⟨n - 1, by omega⟩
    have hb0 : b = 0 := hE
    subst hb0
    rw [kb_Fr_gcd_31, if_neg (by rw [nI_lit100, nI_leI (by omega) (by omega)]; omega), zL_0, if_pos ((zg_eq (rg_nat hb) rg_0).mpr rfl), Nat.gcd_zero_right]
  | succ k ih =>
    intro a b n t hE ha hb ht hn
    obtain ⟨n', rfl⟩ : ∃ n', n = n' + 1 := ⟨n - 1, by omega⟩
    rw [kb_Fr_gcd_31, if_neg (by rw [nI_lit100, nI_leI (by omega) (by omega)]; omega)]
    by_cases hb0 : b = 0
    · subst hb0
      rw [zL_0, if_pos ((zg_eq (rg_nat hb) rg_0).mpr rfl), Nat.gcd_zero_right]
    · have hne : ¬ (b : Int) = 0 := by omega
      rw [zL_0, if_neg (fun h => hne ((zg_eq (rg_nat hb) rg_0).mp h)), if_neg (fun h => hne ((zL_eq (rg_nat hb) rg_0).mp h)), zL_rem (rg_nat ha) (rg_nat hb), tmod_nat, nI_1]
      have hr : a % b < b := Nat.mod_lt _ (by omega)
      rw [ih b (a % b) n' (t + 1) (hE.resolve_left hb0) hb (by omega) (by omega) (by omega), gcd_step]
theorem kg_end (N : Nat) {g : Nat} (hg : g < 9223372036854775808) : kb_Fr_gcd_66 N (zL g) = some (zL ((max 1 g : Nat) : Int)) := by
  unfold kb_Fr_gcd_66 kb_Fr_gcd_79
  rw [zL_1]
  by_cases h : 1 ≤ g
  · rw [if_pos ((zg_ge (rg_nat hg) rg_1).mpr (by omega)), Nat.max_eq_right h]
  · rw [if_neg (fun q => h (by have := (zg_ge (rg_nat hg) rg_1).mp q; omega)), Nat.max_eq_left (by omega)]
    rfl
theorem gcd_lt {x y : Int} (hx : rg x) (hy : rg y) : Nat.gcd x.natAbs y.natAbs < 9223372036854775808 := by
  have h1 := hx.1; have h2 := hx.2; have h3 := hy.1; have h4 := hy.2
  by_cases hx0 : x.natAbs = 0
  · rw [hx0, Nat.gcd_zero_left]; omega
  · have := Nat.gcd_le_left y.natAbs (Nat.pos_of_ne_zero hx0)
    omega
/-- the class's greatest common divisor, never below 1 -/
theorem kg_gcd {N : Nat} (hN : 100 ≤ N) {x y : Int} (hx : rg x) (hy : rg y) : kf_Fr_gcd N (zL x) (zL y) = some (zL ((max 1 (Nat.gcd x.natAbs y.natAbs) : Nat) : Int)) := by
  have h1 := hx.1; have h2 := hx.2; have h3 := hy.1; have h4 := hy.2
  have key : ∀ u v : Nat, u < 9223372036854775808 → v < 9223372036854775808 → kb_Fr_gcd_26 N (zL u) (zL v) = kb_Fr_gcd_66 N (zL (Nat.gcd u v)) := fun u v hu hv => kg_loop N 93 u v N 0 (eu_93 hu hv) hu hv (by omega) (by omega)
  have k2 : ∀ u : Nat, u < 9223372036854775808 → kb_Fr_gcd_12 N (zL y) (zL u) = kb_Fr_gcd_66 N (zL (Nat.gcd u y.natAbs)) := by
    intro u hu
    unfold kb_Fr_gcd_12
    rw [zL_0]
    by_cases h : 0 ≤ y
    · rw [if_pos ((zg_ge hy rg_0).mpr h), ← key u y.natAbs hu (by omega), Int.natAbs_of_nonneg h]
    · rw [if_neg (fun q => h ((zg_ge hy rg_0).mp q)), zL_neg, ← key u y.natAbs hu (by omega)]
      congr 2
      omega
  unfold kf_Fr_gcd kb_Fr_gcd_0
  rw [zL_0]
  rw [← kg_end N (gcd_lt hx hy)]
  by_cases h : 0 ≤ x
  · rw [if_pos ((zg_ge hx rg_0).mpr h), ← k2 x.natAbs (by omega), Int.natAbs_of_nonneg h]
  · rw [if_neg (fun q => h ((zg_ge hx rg_0).mp q)), zL_neg, ← k2 x.natAbs (by omega)]
    congr 2
    omega
/-- the reference's loop -/
theorem kp_loop (N : Nat) (σ : kS) (v1 v3 : Int64) : ∀ (k a b n : Nat), eu_E k a b → a < 9223372036854775808 → b < 9223372036854775808 → k < n → kb_PM_least_45 N n σ v1 v3 (zL a) (zL b) = kb_PM_least_45 N 1 σ v1 v3 (zL (Nat.gcd a b)) (zL 0) := by
  have base : ∀ (a n : Nat), kb_PM_least_45 N (n + 1) σ v1 v3 (zL a) (zL 0) = kb_PM_least_45 N 1 σ v1 v3 (zL a) (zL 0) := by
    intro a n
    have h : lg_cmp (zL 0) 0 = 0 := by rw [zL_0]; exact (zg_eq rg_0 rg_0).mpr rfl
    rw [kb_PM_least_45, kb_PM_least_45, if_pos h, if_pos h]
  intro k
  induction k with
  | zero =>
    intro a b n hE ha hb hn
    obtain ⟨n', rfl⟩ : ∃ n', n = n' + 1 := ⟨n - 1, by omega⟩
    have hb0 : b = 0 := hE
    subst hb0
    rw [Nat.gcd_zero_right]
    exact base a n'
  | succ k ih =>
    intro a b n hE ha hb hn
    obtain ⟨n', rfl⟩ : ∃ n', n = n' + 1 := ⟨n - 1, by omega⟩
    by_cases hb0 : b = 0
    · subst hb0
      rw [Nat.gcd_zero_right]
      exact base a n'
    · have hne : ¬ (b : Int) = 0 := by omega
      have hr : a % b < b := Nat.mod_lt _ (by omega)
      rw [kb_PM_least_45, zL_0, if_neg (fun h => hne ((zg_eq (rg_nat hb) rg_0).mp h)), if_neg (fun h => hne ((zL_eq (rg_nat hb) rg_0).mp h)), zL_rem (rg_nat ha) (rg_nat hb), tmod_nat, ih b (a % b) n' (hE.resolve_left hb0) hb (by omega) (by omega), gcd_step]
