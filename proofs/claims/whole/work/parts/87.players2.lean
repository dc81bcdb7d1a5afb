/-! PLAYERS, 2: shares -/
def bc : Nat → Nat → Nat
  | 0, _ => 0
  | k + 1, s => bc k s + s / 2 ^ k % 2
def fc (k : Nat) : Nat := ([1, 1, 2, 6, 24, 120, 720, 5040, 40320] : List Nat).getD k 0
theorem bt_1 : ∀ s, s < 256 → ∀ p, p < 8 → ((nI s &&& nI (2 ^ p) = 0) ↔ ¬ ((nI s >>> (nI p &&& 31)) &&& 1 = 1)) := by decide +kernel
theorem bt_2 : ∀ s, s < 256 → ∀ p, p < 8 → nI s ||| nI (2 ^ p) = nI (s ||| 2 ^ p) ∧ s ||| 2 ^ p < 256 := by decide +kernel
theorem bt_3 : ∀ s, s < 256 → ∀ k, k < 8 → (nI s >>> (nI k &&& 31)) &&& 1 = nI (s / 2 ^ k % 2) := by decide +kernel
theorem bt_4 : ∀ n, n ≤ 8 → ∀ s, s < 2 ^ n → kf_Ji_bitCount 0 (nI s) = some (nI (bc n s)) := by decide +kernel
theorem bt_5 : ∀ n, n ≤ 8 → ∀ s, s < 2 ^ n → ∀ p, p < n → nI s &&& nI (2 ^ p) = 0 → bc n s + 1 ≤ n := by decide +kernel
theorem fc_sf : ∀ k, k ≤ 8 → sf_0 k = nI (fc k) := by decide +kernel
theorem fc_b : ∀ k, k ≤ 8 → 1 ≤ fc k ∧ fc k ≤ 40320 := by decide +kernel
theorem pm_orders {N : Nat} (hN : 10 ≤ N) {k : Nat} (hk : k ≤ 8) : kf_PM_orders N (nI k) = some (zL ((fc k : Nat) : Int)) := by
  obtain ⟨M, rfl⟩ : ∃ M, N = M + 10 := ⟨N - 10, by omega⟩
  rcases (show k = 0 ∨ k = 1 ∨ k = 2 ∨ k = 3 ∨ k = 4 ∨ k = 5 ∨ k = 6 ∨ k = 7 ∨ k = 8 by omega) with e | e | e | e | e | e | e | e | e <;> subst e <;> rfl
theorem i_sub {x y : Int32} (hx : -10000 ≤ x.toInt ∧ x.toInt ≤ 10000) (hy : -10000 ≤ y.toInt ∧ y.toInt ≤ 10000) : (x - y).toInt64 = zL (x.toInt - y.toInt) := by
  rw [i2l, Int32.toInt_sub, Int.bmod_eq_of_le (by omega) (by omega)]
def trm (n p : Nat) (w : Nat → Int32) (s : Nat) : Int := ((fc (bc n s) : Nat) : Int) * ((fc (n - 1 - bc n s) : Nat) : Int) * ((w (s ||| 2 ^ p)).toInt - (w s).toInt)
def tot (n p : Nat) (w : Nat → Int32) : Nat → Int
  | 0 => 0
  | s + 1 => tot n p w s + (if nI s &&& nI (2 ^ p) = 0 then trm n p w s else 0)
theorem trm_b {n p : Nat} (hn : n ≤ 8) (hp : p < n) {w : Nat → Int32} (hw : ∀ j, j < 256 → -10000 ≤ (w j).toInt ∧ (w j).toInt ≤ 10000) {s : Nat} (hs : s < 2 ^ n) (h0 : nI s &&& nI (2 ^ p) = 0) : (trm n p w s).natAbs ≤ 32514048000000 := by
  have hb := bt_5 n hn s hs p hp h0
  have h8 : 2 ^ n ≤ 2 ^ 8 := Nat.pow_le_pow_right (by decide) hn
  have b1 := (fc_b (bc n s) (by omega)).2
  have b2 := (fc_b (n - 1 - bc n s) (by omega)).2
  have w1 := hw (s ||| 2 ^ p) (bt_2 s (by omega) p (by omega)).2
  have w2 := hw s (by omega)
  unfold trm
  rw [Int.natAbs_mul, Int.natAbs_mul, Int.natAbs_natCast, Int.natAbs_natCast]
  have c1 : fc (bc n s) * fc (n - 1 - bc n s) ≤ 40320 * 40320 := Nat.mul_le_mul b1 b2
  exact Nat.le_trans (Nat.mul_le_mul c1 (show ((w (s ||| 2 ^ p)).toInt - (w s).toInt).natAbs ≤ 20000 by omega)) (by decide)
theorem tot_b {n p : Nat} (hn : n ≤ 8) (hp : p < n) {w : Nat → Int32} (hw : ∀ j, j < 256 → -10000 ≤ (w j).toInt ∧ (w j).toInt ≤ 10000) : ∀ s, s ≤ 2 ^ n → (tot n p w s).natAbs ≤ s * 32514048000000
  | 0, _ => Nat.zero_le _
  | s + 1, h => by
    have ih := tot_b hn hp hw s (by omega)
    unfold tot
    by_cases h0 : nI s &&& nI (2 ^ p) = 0
    · rw [if_pos h0]
      have := trm_b hn hp hw (s := s) (by omega) h0
      omega
    · rw [if_neg h0]
      omega
theorem tot_rg {n p : Nat} (hn : n ≤ 8) (hp : p < n) {w : Nat → Int32} (hw : ∀ j, j < 256 → -10000 ≤ (w j).toInt ∧ (w j).toInt ≤ 10000) : rg (tot n p w (2 ^ n)) := by
  have h := tot_b hn hp hw (2 ^ n) (Nat.le_refl _)
  have h8 : 2 ^ n ≤ 2 ^ 8 := Nat.pow_le_pow_right (by decide) hn
  have : 2 ^ n * 32514048000000 ≤ 2 ^ 8 * 32514048000000 := Nat.mul_le_mul_right _ h8
  exact ⟨by omega, by omega⟩
def fshare (n p : Nat) (w : Nat → Int32) : Option Rat := fo (tot n p w (2 ^ n)) ((fc n : Nat) : Int)
theorem py_share {N : Nat} (hN : 300 ≤ N) {n p : Nat} (hn : n ≤ 8) (hp : p < n) {w : Nat → Int32} (hw : ∀ j, j < 256 → -10000 ≤ (w j).toInt ∧ (w j).toInt ≤ 10000) {τ : kS} (hz : τ.1 1 = nI n) (ht : ∀ j, j < 256 → τ.2.2.1 0 j = w j) : kf_Py_shareOf N τ (nI p) = some (en (fshare n p w), τ) := by
  have h8 : 2 ^ n ≤ 2 ^ 8 := Nat.pow_le_pow_right (by decide) hn
  have lp : ∀ (d s fu : Nat), d + s = 2 ^ n → d < fu → kb_Py_shareOf_9 N fu τ (nI (2 ^ p)) (zL (tot n p w s)) (nI s) = some (en (fshare n p w), τ) := by
    intro d
    induction d with
    | zero =>
      intro s fu hd hf
      obtain ⟨f', rfl⟩ : ∃ f', fu = f' + 1 := ⟨fu - 1, by omega⟩
      have hs : s = 2 ^ n := by omega
      subst hs
      have fb := fc_b n hn
      rw [kb_Py_shareOf_9, hz, sh_tab n hn, if_pos (Int32.le_refl _), mj_tab_nI (by omega) (by omega), Option.bind_some, fc_sf n hn, n2l (by omega), kf_of (by omega) (tot_rg hn hp hw) (rg_nat (by omega))]
      rfl
    | succ d ih =>
      intro s fu hd hf
      obtain ⟨f', rfl⟩ : ∃ f', fu = f' + 1 := ⟨fu - 1, by omega⟩
      have ih2 := ih (s + 1) f' (by omega) (by omega)
      rw [kb_Py_shareOf_9, hz, sh_tab n hn, if_neg (by rw [nI_leI (by omega) (by omega)]; omega)]
      unfold kb_Py_shareOf_82
      rw [nI_1]
      by_cases h0 : nI s &&& nI (2 ^ p) = 0
      · have et : tot n p w (s + 1) = tot n p w s + trm n p w s := by
          show tot n p w s + _ = _
          rw [if_pos h0]
        rw [et] at ih2
        have hb := bt_5 n hn s (by omega) p hp h0
        have o2 := bt_2 s (by omega) p (by omega)
        have f1 := fc_b (bc n s) (by omega)
        have f2 := fc_b (n - 1 - bc n s) (by omega)
        have eb : kf_Ji_bitCount N (nI s) = some (nI (bc n s)) := bt_4 n hn s (by omega)
        have es : nI n - 1 - nI (bc n s) = nI (n - 1 - bc n s) := by
          rw [show nI n - 1 = nI (n - 1) from nI_sub (show 1 ≤ n by omega), nI_sub (by omega)]
        rw [if_pos h0, eb, Option.bind_some, mj_tab_nI (by omega) (by omega), Option.bind_some, es, mj_tab_nI (by omega) (by omega), Option.bind_some, o2.1, mj_tab_nI o2.2 (by omega), Option.bind_some, mj_tab_nI (by omega) (by omega), Option.bind_some, fc_sf _ (by omega), fc_sf _ (by omega), n2l (by omega), n2l (by omega), ht _ o2.2, ht _ (by omega), i_sub (hw _ o2.2) (hw _ (by omega)), zL_mul, zL_mul, zL_add]
        exact ih2
      · have et : tot n p w (s + 1) = tot n p w s := by
          show tot n p w s + _ = _
          rw [if_neg h0, Int.add_zero]
        rw [et] at ih2
        rw [if_neg h0]
        exact ih2
  unfold kf_Py_shareOf kb_Py_shareOf_0
  rw [sh_tab p (by omega)]
  exact lp (2 ^ n) 0 N (by omega) (by omega)
theorem ps_bits {N : Nat} {n : Nat} (hn : n ≤ 8) {σ : kS} (hz : σ.1 26 = nI n) (c35 : kS → Int32 → Int32 → Int64 → Int32 → Option (Int64 × kS)) (v1 v2 : Int32) (v3 : Int64) {s : Nat} (hs : s < 256) : ∀ (d k fu : Nat), d + k = n → d < fu →
    kb_PM_share_65 N c35 fu σ v1 v2 v3 (nI s) (nI (bc k s)) (nI k) = kb_PM_share_65 N c35 1 σ v1 v2 v3 (nI s) (nI (bc n s)) (nI n) := by
  intro d
  induction d with
  | zero =>
    intro k fu hd hf
    obtain ⟨f', rfl⟩ : ∃ f', fu = f' + 1 := ⟨fu - 1, by omega⟩
    have hk : k = n := by omega
    subst hk
    have hle : nI k ≤ nI k := Int32.le_refl _
    rw [kb_PM_share_65, kb_PM_share_65, hz, if_pos hle, if_pos hle]
  | succ d ih =>
    intro k fu hd hf
    obtain ⟨f', rfl⟩ : ∃ f', fu = f' + 1 := ⟨fu - 1, by omega⟩
    rw [kb_PM_share_65, hz, if_neg (by rw [nI_leI (by omega) (by omega)]; omega), bt_3 s hs k (by omega), nI_add, nI_1]
    exact ih (k + 1) f' (by omega) (by omega)
theorem ps_share {N : Nat} (hN : 300 ≤ N) {n p : Nat} (hn : n ≤ 8) (hp : p < n) {w : Nat → Int32} (hw : ∀ j, j < 256 → -10000 ≤ (w j).toInt ∧ (w j).toInt ≤ 10000) {σ : kS} (hz : σ.1 26 = nI n) (ht : ∀ j, j < 256 → σ.2.2.1 27 j = w j) (v : Int32) : kb_PM_share_35 N N σ (nI p) v 0 0 = some (if v = 0 then zL (pP (fshare n p w)) else zL (pQ (fshare n p w)), kPQ σ (fshare n p w)) := by
  have h8 : 2 ^ n ≤ 2 ^ 8 := Nat.pow_le_pow_right (by decide) hn
  have lp : ∀ (d s fu : Nat), d + s = 2 ^ n → d < fu → kb_PM_share_35 N fu σ (nI p) v (zL (tot n p w s)) (nI s) = some (if v = 0 then zL (pP (fshare n p w)) else zL (pQ (fshare n p w)), kPQ σ (fshare n p w)) := by
    intro d
    induction d with
    | zero =>
      intro s fu hd hf
      obtain ⟨f', rfl⟩ : ∃ f', fu = f' + 1 := ⟨fu - 1, by omega⟩
      have hs : s = 2 ^ n := by omega
      subst hs
      have fb := fc_b n hn
      rw [kb_PM_share_35, hz, sh_tab n hn, if_pos (Int32.le_refl _), pm_orders (by omega) hn, Option.bind_some, kp_least (by omega) σ (tot_rg hn hp hw) (rg_nat (by omega)), kk_some]
      have ef : fo (tot n p w (2 ^ n)) ((fc n : Nat) : Int) = fshare n p w := rfl
      rw [ef, kp_told, kk_some]
    | succ d ih =>
      intro s fu hd hf
      obtain ⟨f', rfl⟩ : ∃ f', fu = f' + 1 := ⟨fu - 1, by omega⟩
      have ih2 := ih (s + 1) f' (by omega) (by omega)
      rw [kb_PM_share_35, hz, sh_tab n hn, if_neg (by rw [nI_leI (by omega) (by omega)]; omega)]
      by_cases h0 : nI s &&& nI (2 ^ p) = 0
      · have et : tot n p w (s + 1) = tot n p w s + trm n p w s := by
          show tot n p w s + _ = _
          rw [if_pos h0]
        rw [et] at ih2
        have hb := bt_5 n hn s (by omega) p hp h0
        have o2 := bt_2 s (by omega) p (by omega)
        have es : nI n - nI (bc n s) - 1 = nI (n - 1 - bc n s) := by
          rw [nI_sub (by omega), show nI (n - bc n s) - 1 = nI (n - bc n s - 1) from nI_sub (show 1 ≤ n - bc n s by omega)]
          congr 1
          omega
        have e65 := ps_bits (N := N) hn hz (kb_PM_share_35 N f') (nI p) v (zL (tot n p w s)) (s := s) (by omega) n 0 N (by omega) (by omega)
        rw [if_neg ((bt_1 s (by omega) p (by omega)).mp h0)]
        refine Eq.trans e65 ?_
        rw [kb_PM_share_65, hz, if_pos (Int32.le_refl _), pm_orders (by omega) (by omega), Option.bind_some, es, pm_orders (by omega) (by omega), Option.bind_some, sh_tab p (by omega), o2.1, mj_tab_nI o2.2 (by omega), Option.bind_some, mj_tab_nI (by omega) (by omega), Option.bind_some, ht _ o2.2, ht _ (by omega), i_sub (hw _ o2.2) (hw _ (by omega)), zL_mul, zL_mul, zL_add]
        unfold kb_PM_share_134
        rw [nI_1]
        exact ih2
      · have et : tot n p w (s + 1) = tot n p w s := by
          show tot n p w s + _ = _
          rw [if_neg h0, Int.add_zero]
        rw [et] at ih2
        rw [if_pos (Classical.byContradiction fun q => h0 ((bt_1 s (by omega) p (by omega)).mpr q))]
        unfold kb_PM_share_134
        rw [nI_1]
        exact ih2
  exact lp (2 ^ n) 0 N (by omega) (by omega)
