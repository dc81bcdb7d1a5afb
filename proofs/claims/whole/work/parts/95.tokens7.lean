/-! TOKENS, 7: how often pairs stand, as the class counts -/
def pa (x : Nat → Nat) (i : Nat) : Nat := x i * 86 + x (i + 1)
def ov (x : Nat → Nat) : Nat → Bool
  | 0 => false
  | i + 1 => !ov x i && decide (pa x (i + 1) = pa x i)
def hit (x : Nat → Nat) (P i : Nat) : Bool := decide (pa x i = P) && !ov x i
theorem pa_eq {x : Nat → Nat} {i A B : Nat} (h1 : x i < 86) (h2 : x (i + 1) < 86) (hA : A < 86) (hB : B < 86) : pa x i = A * 86 + B ↔ x i = A ∧ x (i + 1) = B := by
  unfold pa
  omega
theorem hit_s {x : Nat → Nat} {P i : Nat} (h : hit x P i = true) : hit x P (i + 1) = false := by
  unfold hit at *
  simp only [Bool.and_eq_true, decide_eq_true_eq, Bool.not_eq_true'] at h
  by_cases e : pa x (i + 1) = P
  · have : ov x (i + 1) = true := by
      unfold ov
      simp [h.2, e, h.1]
    simp [this]
  · simp [e]
theorem hit_n {x : Nat → Nat} {P i : Nat} (h : hit x P i = false) (e : pa x (i + 1) = P) : hit x P (i + 1) = true := by
  unfold hit at *
  have : ov x (i + 1) = false := by
    unfold ov
    by_cases q : pa x i = P
    · rw [decide_eq_true q, Bool.true_and] at h
      have h2 : ov x i = true := by
        cases w : ov x i
        · rw [w] at h
          exact absurd h (by decide)
        · rfl
      simp [h2]
    · have : ¬ pa x (i + 1) = pa x i := fun w => q (w.symm.trans e)
      simp [this]
  simp [e, this]
theorem hit_0 {x : Nat → Nat} {P : Nat} (e : pa x 0 = P) : hit x P 0 = true := by
  unfold hit ov
  simp [e]
theorem hit_no {x : Nat → Nat} {P i : Nat} (e : ¬ pa x i = P) : hit x P i = false := by
  unfold hit
  simp [e]
theorem oft_hit {x : Nat → Nat} {n A B : Nat} (hx : ∀ i, i < n → x i < 86) (hA : A < 86) (hB : B < 86) : ∀ (d k : Nat), n ≤ k + d → (∀ j, k = j + 1 → hit x (A * 86 + B) j = false) → (k + 1 < n → oft x n A B d k + cnt (hit x (A * 86 + B)) k = cnt (hit x (A * 86 + B)) (n - 1)) ∧ (¬ k + 1 < n → oft x n A B d k = 0)
  | 0, k, h, _ => ⟨fun q => absurd q (by omega), fun _ => rfl⟩
  | d + 1, k, h, hk => by
    refine ⟨fun q => ?_, fun q => by unfold oft; rw [if_neg q]⟩
    have pe := pa_eq (x := x) (i := k) (hx k (by omega)) (hx (k + 1) q) hA hB
    unfold oft
    rw [if_pos q]
    by_cases e : x k = A ∧ x (k + 1) = B
    · have hh : hit x (A * 86 + B) k = true := by
        cases k with
        | zero => exact hit_0 (pe.mpr e)
        | succ j => exact hit_n (hk j rfl) (pe.mpr e)
      have h1 := hit_s hh
      have ih := oft_hit hx hA hB d (k + 2) (by omega) (fun j e => by
        have : j = k + 1 := by omega
        rw [this]
        exact h1)
      rw [if_pos e]
      have c1 := cnt_t (P := hit x (A * 86 + B)) hh
      have c2 := cnt_f (P := hit x (A * 86 + B)) h1
      by_cases q2 : k + 2 + 1 < n
      · have := ih.1 q2
        have e2 : cnt (hit x (A * 86 + B)) (k + 2) = cnt (hit x (A * 86 + B)) (k + 1) := c2
        omega
      · have z := ih.2 q2
        by_cases q3 : n = k + 2
        · have : n - 1 = k + 1 := by omega
          rw [this]
          omega
        · have : n - 1 = k + 2 := by omega
          rw [this]
          have e2 : cnt (hit x (A * 86 + B)) (k + 2) = cnt (hit x (A * 86 + B)) (k + 1) := c2
          omega
    · have hh : hit x (A * 86 + B) k = false := hit_no (fun w => e (pe.mp w))
      have ih := oft_hit hx hA hB d (k + 1) (by omega) (fun j e => by
        have : j = k := by omega
        rw [this]
        exact hh)
      rw [if_neg e]
      have c1 := cnt_f (P := hit x (A * 86 + B)) hh
      by_cases q2 : k + 1 + 1 < n
      · have := ih.1 q2
        omega
      · have z := ih.2 q2
        have : n - 1 = k + 1 := by omega
        rw [this]
        omega
/-- the count of a pair of the text, both ways -/
theorem oft_cnt {x : Nat → Nat} {n A B : Nat} (hn : 1 < n) (hx : ∀ i, i < n → x i < 86) (hA : A < 86) (hB : B < 86) : oft x n A B n 0 = cnt (hit x (A * 86 + B)) (n - 1) := by
  have := (oft_hit hx hA hB n 0 (by omega) (fun j e => absurd e (by omega))).1 (by omega)
  have z : cnt (hit x (A * 86 + B)) 0 = 0 := rfl
  omega
