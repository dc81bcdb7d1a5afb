/-! THE TAPE, 1: nodes and their shapes as they are meant, and where the cells of an act come from -/
abbrev tX : Type := Nat × (Nat → Nat) × (Nat → Nat) × (Nat → Nat) × (Nat → Nat) × (Nat → Nat → Nat)
abbrev x_n (X : tX) : Nat := X.1
abbrev x_o (X : tX) (i : Nat) : Nat := X.2.1 i
abbrev x_a (X : tX) (i : Nat) : Nat := X.2.2.1 i
abbrev x_b (X : tX) (i : Nat) : Nat := X.2.2.2.1 i
abbrev x_s (X : tX) (i : Nat) : Nat := X.2.2.2.2.1 i
abbrev x_P (X : tX) (i k : Nat) : Nat := X.2.2.2.2.2 i k
def c3 (P : Nat → Nat) : Nat := P 0 * P 1 * P 2
def st3 (P : Nat → Nat) (pl : Nat) : Nat := if pl = 0 then P 1 * P 2 else if pl = 1 then P 2 else 1
def w5 (p q r s t c : Nat) : Nat := if c = 0 then p else if c = 1 then q else if c = 2 then r else if c = 3 then s else t
def wSp (P : Nat → Nat) : Nat → Nat := w5 0 (if P 0 = 1 then 0 else st3 P 0) (if P 1 = 1 then 0 else st3 P 1) (if P 2 = 1 then 0 else 1) 0
def wAl (P : Nat → Nat) (pl n : Nat) : Nat → Nat := w5 (n * st3 P pl) 0 (st3 P (if pl = 0 then 1 else 0)) (st3 P (if pl = 2 then 1 else 2)) (st3 P pl)
def w_1 (o b s : Nat) (P : Nat → Nat) : Nat → Nat :=
  if o < 4 then wSp P else if o = 4 then w5 0 0 (P 2) 0 1 else if o < 8 then wAl P (3 - s + b) 0 else if o = 8 then wAl P (3 - s) b else
  if o = 9 then w5 0 (st3 P 0) 1 (P 2) 0 else if o = 14 then w5 0 0 0 1 0 else if o = 15 then w5 0 0 0 0 1 else wSp P
def w_2 (o : Nat) (P : Nat → Nat) : Nat → Nat := if o = 4 then w5 0 0 0 1 (P 2) else wSp P
def w_t (o b s : Nat) (P : Nat → Nat) : Nat :=
  if o < 4 then 1 else if o = 4 then P 2 else if o < 8 then P (3 - s + b) else if o = 15 then c3 P else 1
def w_at (w Q : Nat → Nat) (r k : Nat) : Nat := w 0 + r / Q 2 / Q 1 * w 1 + r / Q 2 % Q 1 * w 2 + r % Q 2 * w 3 + k * w 4
def x_c (X : tX) (i : Nat) : Nat := c3 (x_P X i)
def x_u (X : tX) (i r k : Nat) : Nat := w_at (w_1 (x_o X i) (x_b X i) (x_s X (x_a X i)) (x_P X (x_a X i))) (x_P X i) r k
def x_v (X : tX) (i r k : Nat) : Nat := w_at (w_2 (x_o X i) (x_P X (x_b X i))) (x_P X i) r k
def x_t (X : tX) (i : Nat) : Nat := w_t (x_o X i) (x_b X i) (x_s X (x_a X i)) (x_P X (x_a X i))
def x_fit (o b s s1 s2 : Nat) (P A B : Nat → Nat) : Prop :=
  if o < 4 then s = max s1 s2 ∧ ∀ k, k < 3 → P k = max (A k) (B k) ∧ (A k = B k ∨ A k = 1 ∨ B k = 1)
  else if o = 4 then s = 2 ∧ s1 = 2 ∧ s2 = 2 ∧ A 2 = B 1 ∧ P 0 = 1 ∧ P 1 = A 1 ∧ P 2 = B 2
  else if o < 8 then b < s1 ∧ s + 1 = s1 ∧ P 0 = 1 ∧ P 1 = (if 3 - s1 + b = 0 then A 1 else A 0) ∧ P 2 = (if 3 - s1 + b = 2 then A 1 else A 2)
  else if o = 8 then 1 ≤ s1 ∧ b < A (3 - s1) ∧ s + 1 = s1 ∧ P 0 = 1 ∧ P 1 = (if 3 - s1 = 0 then A 1 else A 0) ∧ P 2 = (if 3 - s1 = 2 then A 1 else A 2)
  else if o = 9 then b = 0 ∧ 2 ≤ s1 ∧ s = s1 ∧ P 0 = A 0 ∧ P 1 = A 2 ∧ P 2 = A 1
  else if o = 14 then b = 0 ∧ s = 1 ∧ P 0 = 1 ∧ P 1 = 1 ∧ P 2 = c3 A
  else if o = 15 then b = 0 ∧ s = 0 ∧ P 0 = 1 ∧ P 1 = 1 ∧ P 2 = 1
  else b = 0 ∧ s = s1 ∧ P 0 = A 0 ∧ P 1 = A 1 ∧ P 2 = A 2
def x_sh (s : Nat) (P : Nat → Nat) : Prop := s ≤ 3 ∧ (∀ k, k < 3 → 1 ≤ P k ∧ P k ≤ 64) ∧ (∀ k, k + s < 3 → P k = 1) ∧ c3 P ≤ 64
def x_nd (X : tX) (i : Nat) : Prop := x_o X i ≤ 16 ∧ x_sh (x_s X i) (x_P X i) ∧ (x_o X i < 16 → x_a X i < i ∧ (x_o X i < 5 → x_b X i < i) ∧ x_fit (x_o X i) (x_b X i) (x_s X i) (x_s X (x_a X i)) (x_s X (x_b X i)) (x_P X i) (x_P X (x_a X i)) (x_P X (x_b X i)))
def x_ok (X : tX) : Prop := x_n X ≤ 50 ∧ ∀ i, i < x_n X → x_nd X i
/-! a place in three sides -/
theorem mr_lt {x y z p q r : Nat} (hx : x < p) (hy : y < q) (hz : z < r) : (x * q + y) * r + z < p * q * r := by
  have h1 : x * q + y < p * q := by
    calc x * q + y < x * q + q := by omega
      _ = (x + 1) * q := by rw [Nat.add_mul]; omega
      _ ≤ p * q := Nat.mul_le_mul_right _ hx
  calc (x * q + y) * r + z < (x * q + y) * r + r := by omega
    _ = (x * q + y + 1) * r := by rw [Nat.add_mul (x * q + y) 1]; omega
    _ ≤ p * q * r := Nat.mul_le_mul_right _ h1
theorem mr_z {x y z q r : Nat} (hz : z < r) : ((x * q + y) * r + z) % r = z := by
  rw [Nat.add_comm, Nat.add_mul_mod_self_right, Nat.mod_eq_of_lt hz]
theorem mr_d {x y z q r : Nat} (hz : z < r) : ((x * q + y) * r + z) / r = x * q + y := by
  rw [Nat.add_comm, Nat.add_mul_div_right _ _ (by omega), Nat.div_eq_of_lt hz, Nat.zero_add]
theorem mr_y {x y q : Nat} (hy : y < q) : (x * q + y) % q = y := by
  rw [Nat.add_comm, Nat.add_mul_mod_self_right, Nat.mod_eq_of_lt hy]
theorem mr_x {x y q : Nat} (hy : y < q) : (x * q + y) / q = x := by
  rw [Nat.add_comm, Nat.add_mul_div_right _ _ (by omega), Nat.div_eq_of_lt hy, Nat.zero_add]
theorem mr_all {r p q s : Nat} (hq : 0 < q) (hs : 0 < s) (h : r < p * q * s) : r / s / q < p ∧ r / s % q < q ∧ r % s < s ∧ r = (r / s / q * q + r / s % q) * s + r % s := by
  refine ⟨?_, Nat.mod_lt _ hq, Nat.mod_lt _ hs, ?_⟩
  · rw [Nat.div_lt_iff_lt_mul hq, Nat.div_lt_iff_lt_mul hs]
    exact h
  · rw [Nat.div_add_mod' (r / s) q, Nat.div_add_mod' r s]
/-- the terms of a row of an act: each stands among the cells of the first, and of the second -/
theorem sp_lt {A P : Nat → Nat} {r k : Nat} (hA : ∀ j, j < 3 → 1 ≤ A j) (hP : ∀ j, j < 3 → 1 ≤ P j) (h : ∀ j, j < 3 → A j = P j ∨ A j = 1) (hr : r < c3 P) : w_at (wSp A) P r k = ((if A 0 = 1 then 0 else r / P 2 / P 1) * A 1 + (if A 1 = 1 then 0 else r / P 2 % P 1)) * A 2 + (if A 2 = 1 then 0 else r % P 2) ∧ w_at (wSp A) P r k < c3 A := by
  obtain ⟨h1, h2, h3, h4⟩ := mr_all (hP 1 (by omega)) (hP 2 (by omega)) hr
  have e : w_at (wSp A) P r k = ((if A 0 = 1 then 0 else r / P 2 / P 1) * A 1 + (if A 1 = 1 then 0 else r / P 2 % P 1)) * A 2 + (if A 2 = 1 then 0 else r % P 2) := by
    show 0 + r / P 2 / P 1 * (if A 0 = 1 then 0 else A 1 * A 2) + r / P 2 % P 1 * (if A 1 = 1 then 0 else A 2) + r % P 2 * (if A 2 = 1 then 0 else 1) + k * 0 = _
    generalize r / P 2 / P 1 = x
    generalize r / P 2 % P 1 = y
    generalize r % P 2 = z
    rw [Nat.add_mul, Nat.mul_zero]
    have t1 : x * (if A 0 = 1 then 0 else A 1 * A 2) = (if A 0 = 1 then 0 else x) * A 1 * A 2 := by
      split
      · simp
      · rw [Nat.mul_assoc]
    have t2 : y * (if A 1 = 1 then 0 else A 2) = (if A 1 = 1 then 0 else y) * A 2 := by
      split
      · simp
      · rfl
    have t3 : z * (if A 2 = 1 then 0 else 1) = (if A 2 = 1 then 0 else z) := by
      split
      · simp
      · simp
    omega
  refine ⟨e, ?_⟩
  rw [e]
  refine mr_lt ?_ ?_ ?_
  · have := hA 0 (by omega)
    split
    · omega
    · rcases h 0 (by omega) with g | g <;> omega
  · have := hA 1 (by omega)
    split
    · omega
    · rcases h 1 (by omega) with g | g <;> omega
  · have := hA 2 (by omega)
    split
    · omega
    · rcases h 2 (by omega) with g | g <;> omega
theorem al_eq {A P : Nat → Nat} {pl n r k : Nat} (hpl : pl < 3) (hA : ∀ j, j < 3 → 1 ≤ A j) (h0 : P 0 = 1) (h1 : P 1 = (if pl = 0 then A 1 else A 0)) (h2 : P 2 = (if pl = 2 then A 1 else A 2)) (hr : r < c3 P) : w_at (wAl A pl n) P r k = (r / st3 A pl * A pl + (n + k)) * st3 A pl + r % st3 A pl ∧ (n + k < A pl → w_at (wAl A pl n) P r k < c3 A) := by
  have a1 := hA 1 (by omega)
  have a0 := hA 0 (by omega)
  have a2 := hA 2 (by omega)
  have hP1 : 1 ≤ P 1 := by rw [h1]; split <;> assumption
  have hP2 : 1 ≤ P 2 := by rw [h2]; split <;> assumption
  obtain ⟨g1, g2, g3, g4⟩ := mr_all hP1 hP2 hr
  rw [h0] at g1
  have gx : r / P 2 / P 1 = 0 := Nat.lt_one_iff.mp g1
  have e0 : w_at (wAl A pl n) P r k = n * st3 A pl + r / P 2 / P 1 * 0 + r / P 2 % P 1 * st3 A (if pl = 0 then 1 else 0) + r % P 2 * st3 A (if pl = 2 then 1 else 2) + k * st3 A pl := rfl
  rw [gx] at g4
  generalize hy : r / P 2 % P 1 = y at *
  generalize hz : r % P 2 = z at *
  obtain rfl | rfl | rfl : pl = 0 ∨ pl = 1 ∨ pl = 2 := by omega
  · have q1 : P 1 = A 1 := h1
    have q2 : P 2 = A 2 := h2
    have e : w_at (wAl A 0 n) P r k = ((n + k) * A 1 + y) * A 2 + z := by
      rw [e0]
      show n * (A 1 * A 2) + r / P 2 / P 1 * 0 + y * A 2 + z * 1 + k * (A 1 * A 2) = _
      rw [Nat.add_mul, Nat.add_mul, Nat.add_mul, Nat.mul_assoc, Nat.mul_assoc]
      omega
    have s0 : st3 A 0 = A 1 * A 2 := rfl
    have rl : r < A 1 * A 2 := by
      have : c3 P = A 1 * A 2 := by unfold c3; rw [h0, q1, q2, Nat.one_mul]
      omega
    refine ⟨?_, fun hk => ?_⟩
    · rw [e, s0, Nat.div_eq_of_lt rl, Nat.mod_eq_of_lt rl, g4, Nat.zero_mul, Nat.zero_mul, Nat.zero_add, Nat.zero_add, q2, Nat.add_mul, Nat.mul_assoc]
      omega
    · rw [e]
      exact mr_lt hk (by omega) (by omega)
  · have q1 : P 1 = A 0 := h1
    have q2 : P 2 = A 2 := h2
    have e : w_at (wAl A 1 n) P r k = (y * A 1 + (n + k)) * A 2 + z := by
      rw [e0]
      show n * A 2 + r / P 2 / P 1 * 0 + y * (A 1 * A 2) + z * 1 + k * A 2 = _
      rw [Nat.add_mul, Nat.add_mul, Nat.mul_assoc]
      omega
    have s0 : st3 A 1 = A 2 := rfl
    have e1 : r / A 2 = y := by
      rw [g4, q2, Nat.zero_mul, Nat.zero_add, mr_x (by omega)]
    have e2 : r % A 2 = z := by rw [← q2]; exact hz
    refine ⟨?_, fun hk => ?_⟩
    · rw [e, s0, e1, e2]
    · rw [e]
      exact mr_lt (by omega) hk (by omega)
  · have q1 : P 1 = A 0 := h1
    have q2 : P 2 = A 1 := h2
    have e : w_at (wAl A 2 n) P r k = (y * A 1 + z) * A 2 + (n + k) := by
      rw [e0]
      show n * 1 + r / P 2 / P 1 * 0 + y * (A 1 * A 2) + z * A 2 + k * 1 = _
      rw [Nat.add_mul, Nat.mul_assoc]
      omega
    have s0 : st3 A 2 = 1 := rfl
    refine ⟨?_, fun hk => ?_⟩
    · rw [e, s0, Nat.div_one, Nat.mod_one, Nat.mul_one, Nat.add_zero]
      have : r = y * A 1 + z := by rw [g4, q2]; simp
      rw [this]
    · rw [e]
      exact mr_lt (by omega) (by omega) hk
theorem tu_eq {A P : Nat → Nat} {r k : Nat} (hA : ∀ j, j < 3 → 1 ≤ A j) (h0 : P 0 = A 0) (h1 : P 1 = A 2) (h2 : P 2 = A 1) (hr : r < c3 P) : w_at (w5 0 (st3 A 0) 1 (A 2) 0) P r k = r / (A 1 * A 2) * (A 1 * A 2) + r % (A 1 * A 2) % A 1 * A 2 + r % (A 1 * A 2) / A 1 ∧ w_at (w5 0 (st3 A 0) 1 (A 2) 0) P r k < c3 A := by
  have a1 := hA 1 (by omega)
  have a2 := hA 2 (by omega)
  obtain ⟨g1, g2, g3, g4⟩ := mr_all (show 0 < P 1 by omega) (show 0 < P 2 by omega) hr
  have e0 : w_at (w5 0 (st3 A 0) 1 (A 2) 0) P r k = 0 + r / P 2 / P 1 * (A 1 * A 2) + r / P 2 % P 1 * 1 + r % P 2 * A 2 + k * 0 := rfl
  generalize hx : r / P 2 / P 1 = x at *
  generalize hy : r / P 2 % P 1 = y at *
  generalize hz : r % P 2 = z at *
  have rr : r = x * (A 1 * A 2) + (y * A 1 + z) := by
    rw [g4, h1, h2, Nat.add_mul, Nat.mul_assoc, Nat.mul_comm (A 2) (A 1)]
    omega
  have il : y * A 1 + z < A 1 * A 2 := by
    calc y * A 1 + z < y * A 1 + A 1 := by omega
      _ = (y + 1) * A 1 := by rw [Nat.add_mul]; omega
      _ ≤ A 2 * A 1 := Nat.mul_le_mul_right _ (by omega)
      _ = A 1 * A 2 := Nat.mul_comm _ _
  have d1 : r / (A 1 * A 2) = x := by rw [rr, mr_x il]
  have d2 : r % (A 1 * A 2) = y * A 1 + z := by rw [rr, mr_y il]
  refine ⟨?_, ?_⟩
  · rw [e0, d1, d2, mr_y (by omega), mr_x (by omega)]
    omega
  · have e : w_at (w5 0 (st3 A 0) 1 (A 2) 0) P r k = (x * A 1 + z) * A 2 + y := by
      rw [e0, Nat.add_mul, Nat.mul_assoc]
      omega
    rw [e]
    exact mr_lt (by omega) (by omega) (by omega)
theorem sm_eq {A P : Nat → Nat} {r k : Nat} (hA : ∀ j, j < 3 → 1 ≤ A j) (h0 : P 0 = A 0) (h1 : P 1 = A 1) (h2 : P 2 = A 2) (hr : r < c3 P) : w_at (wSp A) P r k = r ∧ r < c3 A := by
  have hP : ∀ j, j < 3 → 1 ≤ P j := fun j hj => by
    obtain rfl | rfl | rfl : j = 0 ∨ j = 1 ∨ j = 2 := by omega
    · rw [h0]; exact hA _ hj
    · rw [h1]; exact hA _ hj
    · rw [h2]; exact hA _ hj
  obtain ⟨g1, g2, g3, g4⟩ := mr_all (hP 1 (by omega)) (hP 2 (by omega)) hr
  have c : c3 P = c3 A := by unfold c3; rw [h0, h1, h2]
  refine ⟨?_, by omega⟩
  rw [(sp_lt (k := k) hA hP (fun j hj => by
    obtain rfl | rfl | rfl : j = 0 ∨ j = 1 ∨ j = 2 := by omega
    · exact Or.inl h0.symm
    · exact Or.inl h1.symm
    · exact Or.inl h2.symm) hr).1]
  have t0 : (if A 0 = 1 then 0 else r / P 2 / P 1) = r / P 2 / P 1 := by
    split
    · rename_i w
      rw [h0, w] at g1
      exact (Nat.lt_one_iff.mp g1).symm
    · rfl
  have t1 : (if A 1 = 1 then 0 else r / P 2 % P 1) = r / P 2 % P 1 := by
    split
    · omega
    · rfl
  have t2 : (if A 2 = 1 then 0 else r % P 2) = r % P 2 := by
    split
    · omega
    · rfl
  rw [t0, t1, t2, ← h1, ← h2]
  exact g4.symm
theorem ma_eq {A B P : Nat → Nat} {r k : Nat} (hA : ∀ j, j < 3 → 1 ≤ A j) (hB : ∀ j, j < 3 → 1 ≤ B j) (hab : A 2 = B 1) (h0 : P 0 = 1) (h1 : P 1 = A 1) (h2 : P 2 = B 2) (hr : r < c3 P) (hk : k < A 2) : w_at (w5 0 0 (A 2) 0 1) P r k = r / B 2 * A 2 + k ∧ w_at (w5 0 0 (A 2) 0 1) P r k < c3 A ∧ w_at (w5 0 0 0 1 (B 2)) P r k = k * B 2 + r % B 2 ∧ w_at (w5 0 0 0 1 (B 2)) P r k < c3 B := by
  have a0 := hA 0 (by omega)
  have a1 := hA 1 (by omega)
  have b0 := hB 0 (by omega)
  have b2 := hB 2 (by omega)
  obtain ⟨g1, g2, g3, g4⟩ := mr_all (show 0 < P 1 by omega) (show 0 < P 2 by omega) hr
  have e1 : w_at (w5 0 0 (A 2) 0 1) P r k = 0 + r / P 2 / P 1 * 0 + r / P 2 % P 1 * A 2 + r % P 2 * 0 + k * 1 := rfl
  have e2 : w_at (w5 0 0 0 1 (B 2)) P r k = 0 + r / P 2 / P 1 * 0 + r / P 2 % P 1 * 0 + r % P 2 * 1 + k * B 2 := rfl
  rw [h0] at g1
  have gx : r / P 2 / P 1 = 0 := Nat.lt_one_iff.mp g1
  have dy : r / B 2 = r / P 2 % P 1 := by
    rw [h2] at gx
    rw [h2, Nat.mod_eq_of_lt]
    have := Nat.div_add_mod (r / B 2) (P 1)
    have : r / B 2 % P 1 < P 1 := Nat.mod_lt _ (by omega)
    rw [gx] at *
    omega
  refine ⟨by rw [e1, dy]; omega, ?_, by rw [e2, h2]; omega, ?_⟩
  · have e : w_at (w5 0 0 (A 2) 0 1) P r k = (0 * A 1 + r / P 2 % P 1) * A 2 + k := by rw [e1, show 0 * A 1 + r / P 2 % P 1 = r / P 2 % P 1 by rw [Nat.zero_mul, Nat.zero_add]]; omega
    rw [e]
    exact mr_lt (by omega) (by omega) hk
  · have e : w_at (w5 0 0 0 1 (B 2)) P r k = (0 * B 1 + k) * B 2 + r % P 2 := by rw [e2, show 0 * B 1 + k = k by rw [Nat.zero_mul, Nat.zero_add]]; omega
    rw [e]
    exact mr_lt (by omega) (by omega) (by omega)
theorem x_lt {X : tX} (ok : x_ok X) {i : Nat} (hi : i < x_n X) (ho : x_o X i < 16) : x_a X i < i ∧ x_a X i < x_n X ∧ x_sh (x_s X i) (x_P X i) ∧ x_sh (x_s X (x_a X i)) (x_P X (x_a X i)) := by
  obtain ⟨h1, h2, h3⟩ := ok.2 i hi
  obtain ⟨h4, h5⟩ := h3 ho
  have h6 : x_a X i < x_n X := by omega
  exact ⟨h4, h6, h2, (ok.2 _ h6).2.1⟩
theorem x_lt2 {X : tX} (ok : x_ok X) {i : Nat} (hi : i < x_n X) (ho : x_o X i < 5) : x_b X i < i ∧ x_b X i < x_n X ∧ x_sh (x_s X (x_b X i)) (x_P X (x_b X i)) := by
  obtain ⟨h1, h2, h3⟩ := ok.2 i hi
  obtain ⟨h4, h5, h7⟩ := h3 (by omega)
  have h6 : x_b X i < x_n X := by have := h5 ho; omega
  exact ⟨h5 ho, h6, (ok.2 _ h6).2.1⟩
theorem sh_pos {s : Nat} {P : Nat → Nat} (h : x_sh s P) : ∀ j, j < 3 → 1 ≤ P j := fun j hj => (h.2.1 j hj).1
theorem xu_lt {X : tX} (ok : x_ok X) {i : Nat} (hi : i < x_n X) (ho : x_o X i < 16) {r k : Nat} (hr : r < x_c X i) (hk : k < x_t X i) : x_u X i r k < x_c X (x_a X i) := by
  obtain ⟨g1, g2, g3, g4⟩ := x_lt ok hi ho
  obtain ⟨_, _, q⟩ := ok.2 i hi
  obtain ⟨_, _, q⟩ := q ho
  have hA := sh_pos g4
  have hP := sh_pos g3
  have s3 := g4.1
  unfold x_c at hr ⊢
  unfold x_t at hk
  unfold x_u
  unfold x_fit at q
  unfold w_t at hk
  unfold w_1
  generalize hA' : x_P X (x_a X i) = A at *
  generalize hP' : x_P X i = P at *
  generalize hO : x_o X i = o at *
  by_cases h0 : o < 4
  · rw [if_pos h0] at q ⊢
    exact (sp_lt hA hP (fun j hj => by have := q.2 j hj; have := hA j hj; rcases (q.2 j hj).2 with g | g | g <;> omega) hr).2
  rw [if_neg h0] at q hk ⊢
  by_cases h4 : o = 4
  · rw [if_pos h4] at q hk ⊢
    obtain ⟨v1, v2, v3⟩ := x_lt2 ok hi (by omega)
    obtain ⟨_, _, _, u1, u2, u3, u4⟩ := q
    exact (ma_eq hA (sh_pos v3) u1 u2 u3 u4 hr hk).2.1
  rw [if_neg h4] at q hk ⊢
  by_cases h8 : o < 8
  · rw [if_pos h8] at q hk ⊢
    obtain ⟨u1, u2, u3, u4, u5⟩ := q
    exact (al_eq (n := 0) (k := k) (by omega) hA u3 u4 u5 hr).2 (by omega)
  rw [if_neg h8] at q hk ⊢
  by_cases h9 : o = 8
  · rw [if_pos h9] at q ⊢
    rw [if_neg (by omega)] at hk
    obtain ⟨u0, u1, u2, u3, u4, u5⟩ := q
    exact (al_eq (n := x_b X i) (k := k) (by omega) hA u3 u4 u5 hr).2 (by omega)
  rw [if_neg h9] at q ⊢
  by_cases h10 : o = 9
  · rw [if_pos h10] at q ⊢
    obtain ⟨u0, u1, u2, u3, u4, u5⟩ := q
    exact (tu_eq hA u3 u4 u5 hr).2
  rw [if_neg h10] at q ⊢
  by_cases h14 : o = 14
  · rw [if_pos h14] at q ⊢
    obtain ⟨u0, u1, u3, u4, u5⟩ := q
    have c : c3 P = c3 A := by show P 0 * P 1 * P 2 = _; rw [u3, u4, u5]; simp
    show 0 + r / P 2 / P 1 * 0 + r / P 2 % P 1 * 0 + r % P 2 * 1 + k * 0 < c3 A
    have rr : r < c3 A := by omega
    rw [u5, Nat.mod_eq_of_lt rr]
    omega
  rw [if_neg h14] at q ⊢
  by_cases h15 : o = 15
  · rw [if_pos h15] at q hk ⊢
    show 0 + r / P 2 / P 1 * 0 + r / P 2 % P 1 * 0 + r % P 2 * 0 + k * 1 < c3 A
    omega
  rw [if_neg h15] at q ⊢
  obtain ⟨u0, u1, u3, u4, u5⟩ := q
  obtain ⟨y1, y2⟩ := sm_eq (k := k) hA u3 u4 u5 hr
  rw [y1]
  exact y2
theorem xv_lt {X : tX} (ok : x_ok X) {i : Nat} (hi : i < x_n X) (ho : x_o X i < 5) {r k : Nat} (hr : r < x_c X i) (hk : k < x_t X i) : x_v X i r k < x_c X (x_b X i) := by
  obtain ⟨g1, g2, g3, g4⟩ := x_lt ok hi (by omega)
  obtain ⟨v1, v2, v3⟩ := x_lt2 ok hi ho
  obtain ⟨_, _, q⟩ := ok.2 i hi
  obtain ⟨_, _, q⟩ := q (by omega)
  have hA := sh_pos g4
  have hP := sh_pos g3
  have hB := sh_pos v3
  unfold x_c at hr ⊢
  unfold x_t at hk
  unfold x_v
  unfold x_fit at q
  unfold w_t at hk
  unfold w_2
  by_cases h0 : x_o X i < 4
  · rw [if_pos h0] at q
    rw [if_neg (by omega)]
    exact (sp_lt hB hP (fun j hj => by have := q.2 j hj; have := hA j hj; have := hB j hj; rcases (q.2 j hj).2 with g | g | g <;> omega) hr).2
  · have h4 : x_o X i = 4 := by omega
    rw [if_neg h0, if_pos h4] at q hk
    rw [if_pos h4]
    obtain ⟨_, _, _, u1, u2, u3, u4⟩ := q
    exact (ma_eq hA hB u1 u2 u3 u4 hr hk).2.2.2
theorem xt_b {X : tX} (ok : x_ok X) {i : Nat} (hi : i < x_n X) (ho : x_o X i < 16) : 1 ≤ x_t X i ∧ x_t X i ≤ 64 := by
  obtain ⟨g1, g2, g3, g4⟩ := x_lt ok hi ho
  obtain ⟨_, _, q⟩ := ok.2 i hi
  obtain ⟨_, _, q⟩ := q ho
  have s3 := g4.1
  unfold x_fit at q
  unfold x_t w_t
  by_cases h0 : x_o X i < 4
  · rw [if_pos h0]
    omega
  rw [if_neg h0] at q ⊢
  by_cases h4 : x_o X i = 4
  · rw [if_pos h4]
    exact g4.2.1 2 (by omega)
  rw [if_neg h4] at q ⊢
  by_cases h8 : x_o X i < 8
  · rw [if_pos h8] at q ⊢
    exact g4.2.1 _ (by omega)
  rw [if_neg h8]
  by_cases h15 : x_o X i = 15
  · rw [if_pos h15]
    refine ⟨?_, g4.2.2.2⟩
    exact Nat.mul_pos (Nat.mul_pos (g4.2.1 0 (by omega)).1 (g4.2.1 1 (by omega)).1) (g4.2.1 2 (by omega)).1
  · rw [if_neg h15]
    omega
theorem xc_b {X : tX} (ok : x_ok X) {i : Nat} (hi : i < x_n X) : 1 ≤ x_c X i ∧ x_c X i ≤ 64 := by
  obtain ⟨_, h, _⟩ := ok.2 i hi
  exact ⟨Nat.mul_pos (Nat.mul_pos (h.2.1 0 (by omega)).1 (h.2.1 1 (by omega)).1) (h.2.1 2 (by omega)).1, h.2.2.2⟩
