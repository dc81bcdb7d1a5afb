/-! THE TABLE, 1: counts by classes, the cost of a cut, on both sides -/
def tl (cl : Nat → Nat) (x : Nat → Int32) (v : Int32) (b : Bool) : Nat → Nat → Nat
  | 0, _ => 0
  | r + 1, k => tl cl x v b r k + (if cl r = k ∧ decide (x r ≤ v) = b then 1 else 0)
def s4 (f : Nat → Nat) : Nat := f 0 + f 1 + f 2 + f 3
def q4 (f : Nat → Nat) : Nat := f 0 * f 0 + f 1 * f 1 + f 2 * f 2 + f 3 * f 3
theorem s4_step (cl : Nat → Nat) (x : Nat → Int32) (v : Int32) (b : Bool) {r : Nat} (h : cl r < 4) : s4 (tl cl x v b (r + 1)) = s4 (tl cl x v b r) + (if decide (x r ≤ v) = b then 1 else 0) := by
  unfold s4
  simp only [tl]
  by_cases hb : decide (x r ≤ v) = b
  · simp only [hb, and_true, if_true]
    rcases (show cl r = 0 ∨ cl r = 1 ∨ cl r = 2 ∨ cl r = 3 by omega) with e | e | e | e <;> simp [e] <;> omega
  · simp [hb]
theorem s4_sum (cl : Nat → Nat) (x : Nat → Int32) (v : Int32) : ∀ r : Nat, (∀ q, q < r → cl q < 4) → s4 (tl cl x v true r) + s4 (tl cl x v false r) = r
  | 0, _ => rfl
  | r + 1, h => by
    rw [s4_step cl x v true (h r (by omega)), s4_step cl x v false (h r (by omega))]
    have := s4_sum cl x v r (fun q hq => h q (by omega))
    by_cases hx : x r ≤ v
    · simp [hx]
      omega
    · simp [hx]
      omega
theorem tl_le (cl : Nat → Nat) (x : Nat → Int32) (v : Int32) (b : Bool) (k : Nat) : ∀ r : Nat, tl cl x v b r k ≤ r
  | 0 => Nat.le_refl 0
  | r + 1 => by
    have := tl_le cl x v b k r
    simp only [tl]
    split <;> omega
def tnum (lo hi : Nat → Nat) : Int := ((s4 lo : Int) * s4 lo - q4 lo) * s4 hi + ((s4 hi : Int) * s4 hi - q4 hi) * s4 lo
def tden (lo hi : Nat → Nat) : Int := (s4 lo : Int) * s4 hi * ((s4 lo : Int) + s4 hi)
def tc (lo hi : Nat → Nat) : Option Rat := if s4 lo = 0 ∨ s4 hi = 0 then none else fo (tnum lo hi) (tden lo hi)
theorem q4_le (f : Nat → Nat) : q4 f ≤ s4 f * s4 f := by
  unfold q4 s4
  have h0 : f 0 * f 0 ≤ f 0 * (f 0 + f 1 + f 2 + f 3) := Nat.mul_le_mul_left _ (by omega)
  have h1 : f 1 * f 1 ≤ f 1 * (f 0 + f 1 + f 2 + f 3) := Nat.mul_le_mul_left _ (by omega)
  have h2 : f 2 * f 2 ≤ f 2 * (f 0 + f 1 + f 2 + f 3) := Nat.mul_le_mul_left _ (by omega)
  have h3 : f 3 * f 3 ≤ f 3 * (f 0 + f 1 + f 2 + f 3) := Nat.mul_le_mul_left _ (by omega)
  rw [Nat.add_mul, Nat.add_mul, Nat.add_mul]
  omega
theorem sq_le {a : Nat} (h : a ≤ 40) : a * a ≤ 1600 := Nat.mul_le_mul h h
theorem tnum_b {lo hi : Nat → Nat} (h1 : s4 lo ≤ 40) (h2 : s4 hi ≤ 40) : 0 ≤ tnum lo hi ∧ tnum lo hi ≤ 128000 := by
  have a1 := q4_le lo; have a2 := q4_le hi
  have b1 := sq_le h1; have b2 := sq_le h2
  obtain ⟨u, hu⟩ : ∃ u : Nat, u = s4 lo * s4 lo - q4 lo := ⟨_, rfl⟩
  obtain ⟨w, hw⟩ : ∃ w : Nat, w = s4 hi * s4 hi - q4 hi := ⟨_, rfl⟩
  have e : tnum lo hi = ((u * s4 hi + w * s4 lo : Nat) : Int) := by
    unfold tnum
    rw [Int.natCast_add, Int.natCast_mul, Int.natCast_mul, hu, hw, Int.ofNat_sub a1, Int.ofNat_sub a2, Int.natCast_mul, Int.natCast_mul]
  have c1 : u * s4 hi ≤ 1600 * 40 := Nat.mul_le_mul (by omega) h2
  have c2 : w * s4 lo ≤ 1600 * 40 := Nat.mul_le_mul (by omega) h1
  rw [e]
  omega
theorem tden_b {lo hi : Nat → Nat} (h1 : s4 lo ≤ 40) (h2 : s4 hi ≤ 40) : 0 ≤ tden lo hi ∧ tden lo hi ≤ 128000 := by
  have e : tden lo hi = ((s4 lo * s4 hi * (s4 lo + s4 hi) : Nat) : Int) := by
    unfold tden
    rw [Int.natCast_mul, Int.natCast_mul, Int.natCast_add]
  have c1 : s4 lo * s4 hi ≤ 1600 := Nat.mul_le_mul h1 h2
  have c2 : s4 lo * s4 hi * (s4 lo + s4 hi) ≤ 1600 * 80 := Nat.mul_le_mul c1 (by omega)
  rw [e]
  omega
theorem tden_0 {lo hi : Nat → Nat} (h1 : s4 lo ≠ 0) (h2 : s4 hi ≠ 0) : tden lo hi ≠ 0 := by
  unfold tden
  exact Int.mul_ne_zero (Int.mul_ne_zero (by omega) (by omega)) (by omega)
theorem tc_none {lo hi : Nat → Nat} (h1 : s4 lo ≤ 40) (h2 : s4 hi ≤ 40) : tc lo hi = none ↔ (s4 lo = 0 ∨ s4 hi = 0) := by
  unfold tc
  by_cases h : s4 lo = 0 ∨ s4 hi = 0
  · rw [if_pos h]
    exact ⟨fun _ => h, fun _ => rfl⟩
  · rw [if_neg h]
    have b1 := tnum_b h1 h2; have b2 := tden_b h1 h2
    rw [fo_some (tden_0 (fun q => h (Or.inl q)) (fun q => h (Or.inr q))) (by omega) (by omega)]
    exact ⟨fun q => (by cases q), fun q => absurd q h⟩
theorem fG_tc (lo hi : Nat → Nat) : fG (tc lo hi) := by
  unfold tc
  split
  · exact fG_none
  · exact fG_fo _ _
/-! the class -/
theorem ta_sq2 {N : Nat} (hN : 5 ≤ N) (τ : kS) (f : Nat → Nat) (hf : ∀ k, k < 4 → f k < 2 ^ 31) (h : ∀ k, k < 4 → τ.2.2.1 2 k = nI (f k)) : kf_Ta_squares_Ta2 N τ = some (zL (q4 f : Int), τ) := by
  obtain ⟨M, rfl⟩ : ∃ M, N = M + 5 := ⟨N - 5, by omega⟩
  unfold kf_Ta_squares_Ta2 kb_Ta_squares_Ta2_0
  have st : ∀ (n j : Nat) (z : Int), j < 4 → kb_Ta_squares_Ta2_11 (M + 5) (n + 1) τ (zL z) (nI 4) (nI j) = kb_Ta_squares_Ta2_11 (M + 5) n τ (zL (z + (f j : Int) * (f j : Int))) (nI 4) (nI (j + 1)) := by
    intro n j z hj
    rw [kb_Ta_squares_Ta2_11, if_neg (by rw [nI_leI (by omega) (by omega)]; omega), mj_tab_nI hj (by omega), Option.bind_some, h j hj, n2l (hf j hj), zL_mul, zL_add, nI_1]
  have e : kb_Ta_squares_Ta2_11 (M + 5) (M + 5) τ (zL 0) (nI 4) (nI 0) = some (zL (q4 f : Int), τ) := by
    rw [st _ _ _ (by omega), st _ _ _ (by omega), st _ _ _ (by omega), st _ _ _ (by omega), kb_Ta_squares_Ta2_11, if_pos (by rw [nI_leI (by omega) (by omega)]; omega)]
    congr 2
    unfold q4
    simp only [Int.natCast_add, Int.natCast_mul, Int.zero_add]
  exact e
theorem ta_sq3 {N : Nat} (hN : 5 ≤ N) (τ : kS) (f : Nat → Nat) (hf : ∀ k, k < 4 → f k < 2 ^ 31) (h : ∀ k, k < 4 → τ.2.2.1 3 k = nI (f k)) : kf_Ta_squares_Ta3 N τ = some (zL (q4 f : Int), τ) := by
  obtain ⟨M, rfl⟩ : ∃ M, N = M + 5 := ⟨N - 5, by omega⟩
  unfold kf_Ta_squares_Ta3 kb_Ta_squares_Ta3_0
  have st : ∀ (n j : Nat) (z : Int), j < 4 → kb_Ta_squares_Ta3_11 (M + 5) (n + 1) τ (zL z) (nI 4) (nI j) = kb_Ta_squares_Ta3_11 (M + 5) n τ (zL (z + (f j : Int) * (f j : Int))) (nI 4) (nI (j + 1)) := by
    intro n j z hj
    rw [kb_Ta_squares_Ta3_11, if_neg (by rw [nI_leI (by omega) (by omega)]; omega), mj_tab_nI hj (by omega), Option.bind_some, h j hj, n2l (hf j hj), zL_mul, zL_add, nI_1]
  have e : kb_Ta_squares_Ta3_11 (M + 5) (M + 5) τ (zL 0) (nI 4) (nI 0) = some (zL (q4 f : Int), τ) := by
    rw [st _ _ _ (by omega), st _ _ _ (by omega), st _ _ _ (by omega), st _ _ _ (by omega), kb_Ta_squares_Ta3_11, if_pos (by rw [nI_leI (by omega) (by omega)]; omega)]
    congr 2
    unfold q4
    simp only [Int.natCast_add, Int.natCast_mul, Int.zero_add]
  exact e
/-- the numbers of the table, as both sides hold them -/
def taV (n : Nat) (cl : Nat → Nat) (x : Nat → Nat → Int32) (τ : kS) : Prop := n ≤ 40 ∧ τ.1 4 = nI n ∧ ∀ r, r < n → cl r < 4 ∧ τ.2.2.1 1 r = nI (cl r) ∧ ∀ c, c < 4 → τ.2.2.1 0 (4 * r + c) = x r c
theorem ta_loop {N : Nat} (hN : 100 ≤ N) {n c : Nat} (hc : c < 4) {cl : Nat → Nat} {x : Nat → Nat → Int32} (v : Int32) : ∀ (d r fu : Nat) (τ : kS), d + r = n → d < fu → taV n cl x τ →
    (∀ k, k < 4 → τ.2.2.1 2 k = nI (tl cl (fun q => x q c) v true r k)) → (∀ k, k < 4 → τ.2.2.1 3 k = nI (tl cl (fun q => x q c) v false r k)) →
    ∃ τ2, kb_Ta_costOf_21 N fu τ (nI c) v (nI (s4 (tl cl (fun q => x q c) v true r))) (nI r) = some (en (tc (tl cl (fun q => x q c) v true n) (tl cl (fun q => x q c) v false n)), τ2) ∧ kfr [] [] [2, 3] [] τ τ2 := by
  intro d
  induction d with
  | zero =>
    intro r fu τ hd hf hT h2 h3
    obtain ⟨f', rfl⟩ : ∃ f', fu = f' + 1 := ⟨fu - 1, by omega⟩
    have hr : r = n := by omega
    subst hr
    obtain ⟨hn, hsz, hrow⟩ := hT
    have hsum := s4_sum cl (fun q => x q c) v r (fun q hq => (hrow q hq).1)
    have l2 : ∀ k, k < 4 → tl cl (fun q => x q c) v true r k < 2 ^ 31 := fun k _ => by have := tl_le cl (fun q => x q c) v true k r; omega
    have l3 : ∀ k, k < 4 → tl cl (fun q => x q c) v false r k < 2 ^ 31 := fun k _ => by have := tl_le cl (fun q => x q c) v false k r; omega
    have q2 := ta_sq2 (N := N) (by omega) τ _ l2 h2
    have q3 := ta_sq3 (N := N) (by omega) τ _ l3 h3
    generalize tl cl (fun q => x q c) v true r = lo at *
    generalize tl cl (fun q => x q c) v false r = hi at *
    refine ⟨τ, ?_, kfr_refl _ _ _ _ _⟩
    rw [kb_Ta_costOf_21, hsz, if_pos (by rw [nI_leI (by omega) (by omega)]; omega)]
    have esub : nI r - nI (s4 lo) = nI (s4 hi) := by
      rw [nI_sub (by omega)]
      congr 1
      omega
    rw [esub]
    unfold kb_Ta_costOf_106
    by_cases h0 : s4 lo = 0
    · have e : tc lo hi = none := if_pos (Or.inl h0)
      rw [e, h0, if_pos nI_0]
      rfl
    · rw [if_neg (nI_ne0 (by omega) (by omega))]
      by_cases h1 : s4 hi = 0
      · have e : tc lo hi = none := if_pos (Or.inr h1)
        rw [e, h1, if_pos nI_0]
        rfl
      · rw [if_neg (nI_ne0 (by omega) (by omega)), q2, kk_some, q3, kk_some]
        rw [n2l (by omega), n2l (by omega), n2l (by omega), zL_mul, zL_mul, zL_mul, zL_mul, zL_sub, zL_sub]
        have b1 := tnum_b (lo := lo) (hi := hi) (by omega) (by omega)
        have b2 := tden_b (lo := lo) (hi := hi) (by omega) (by omega)
        have eden : (r : Int) * (s4 lo : Int) * (s4 hi : Int) = tden lo hi := by
          unfold tden
          rw [← hsum, Int.natCast_add, Int.mul_assoc, Int.mul_comm]
        have enum : (r : Int) * (s4 lo : Int) * (s4 hi : Int) - (q4 lo : Int) * (s4 hi : Int) - (q4 hi : Int) * (s4 lo : Int) = tnum lo hi := by
          rw [eden]
          unfold tnum tden
          rw [Int.mul_add, Int.sub_mul, Int.sub_mul, Int.mul_right_comm (s4 lo : Int) (s4 hi : Int) (s4 lo : Int), Int.mul_assoc (s4 lo : Int) (s4 hi : Int) (s4 hi : Int), Int.mul_comm (s4 lo : Int) ((s4 hi : Int) * (s4 hi : Int))]
          omega
        rw [enum, eden, kf_of hN ⟨by omega, by omega⟩ ⟨by omega, by omega⟩]
        have e : tc lo hi = fo (tnum lo hi) (tden lo hi) := if_neg (by omega)
        rw [e]
        rfl
  | succ d ih =>
    intro r fu τ hd hf hT h2 h3
    obtain ⟨f', rfl⟩ : ∃ f', fu = f' + 1 := ⟨fu - 1, by omega⟩
    obtain ⟨hn, hsz, hrow⟩ := hT
    obtain ⟨hcl, hc1, hx⟩ := hrow r (by omega)
    have l2 := tl_le cl (fun q => x q c) v true (cl r) r
    have l3 := tl_le cl (fun q => x q c) v false (cl r) r
    rw [kb_Ta_costOf_21, hsz, if_neg (by rw [nI_leI (by omega) (by omega)]; omega)]
    have e4 : nI r * 4 + nI c = nI (4 * r + c) := by
      rw [show (4 : Int32) = nI 4 from rfl, nI_mul, nI_add]
      congr 1
      omega
    have hs := s4_step cl (fun q => x q c) v true hcl
    rw [e4, mj_tab_nI (by omega) (by omega), Option.bind_some, hx c hc, mj_tab_nI (by omega) (by omega), Option.bind_some, hc1]
    by_cases hv : x r c ≤ v
    · rw [if_neg (Int32.not_lt.mpr hv), Option.bind_some, mj_tab_nI hcl (by omega), Option.bind_some, h2 _ hcl, mj_gd_nI hcl (by omega), nI_clamp (by omega), nI_1, nI_1]
      unfold kb_Ta_costOf_83 kk_let
      rw [nI_1]
      have es : s4 (tl cl (fun q => x q c) v true r) + 1 = s4 (tl cl (fun q => x q c) v true (r + 1)) := by
        rw [hs]
        simp [hv]
      rw [es]
      obtain ⟨τ2, g1, g2⟩ := ih (r + 1) f' (kA τ 2 (cl r) (nI (tl cl (fun q => x q c) v true r (cl r) + 1))) (by omega) (by omega)
        ⟨hn, hsz, fun q hq => ⟨(hrow q hq).1, by rw [kA_ne _ _ _ _ (by decide)]; exact (hrow q hq).2.1, fun e he => by rw [kA_ne _ _ _ _ (by decide)]; exact (hrow q hq).2.2 e he⟩⟩
        (fun k hk => by
          rw [kA_3]
          simp only [tl, hv, decide_true, and_true, true_and]
          by_cases e : k = cl r
          · rw [if_pos e, e, if_pos rfl]
          · rw [if_neg e, if_neg (fun q => e q.symm), h2 k hk]
            rfl)
        (fun k hk => by
          rw [kA_ne _ _ _ _ (by decide), h3 k hk]
          simp [tl, hv])
      exact ⟨τ2, g1, kfr_trans (kfr_A (by decide)) g2⟩
    · rw [if_pos (Int32.not_le.mp hv), mj_tab_nI hcl (by omega), Option.bind_some, h3 _ hcl, mj_gd_nI hcl (by omega), nI_clamp (by omega), nI_1]
      unfold kb_Ta_costOf_83 kk_let
      rw [nI_1]
      have es : s4 (tl cl (fun q => x q c) v true r) = s4 (tl cl (fun q => x q c) v true (r + 1)) := by
        rw [hs]
        simp [hv]
      rw [es]
      obtain ⟨τ2, g1, g2⟩ := ih (r + 1) f' (kA τ 3 (cl r) (nI (tl cl (fun q => x q c) v false r (cl r) + 1))) (by omega) (by omega)
        ⟨hn, hsz, fun q hq => ⟨(hrow q hq).1, by rw [kA_ne _ _ _ _ (by decide)]; exact (hrow q hq).2.1, fun e he => by rw [kA_ne _ _ _ _ (by decide)]; exact (hrow q hq).2.2 e he⟩⟩
        (fun k hk => by
          rw [kA_ne _ _ _ _ (by decide), h2 k hk]
          simp [tl, hv])
        (fun k hk => by
          rw [kA_3]
          simp only [tl, hv, decide_false, and_true, true_and]
          by_cases e : k = cl r
          · rw [if_pos e, e, if_pos rfl]
          · rw [if_neg e, if_neg (fun q => e q.symm), h3 k hk]
            rfl)
      exact ⟨τ2, g1, kfr_trans (kfr_A (by decide)) g2⟩
