/-! TOKENS, 6: how often a pair stands, as the reference counts -/
def oft (x : Nat → Nat) (n A B : Nat) : Nat → Nat → Nat
  | 0, _ => 0
  | d + 1, k => if k + 1 < n then (if x k = A ∧ x (k + 1) = B then oft x n A B d (k + 2) + 1 else oft x n A B d (k + 1)) else 0
theorem oft_le (x : Nat → Nat) (n A B : Nat) : ∀ d k, oft x n A B d k ≤ d
  | 0, _ => Nat.le_refl 0
  | d + 1, k => by
    unfold oft
    split
    · split
      · have := oft_le x n A B d (k + 2)
        omega
      · have := oft_le x n A B d (k + 1)
        omega
    · omega
theorem pt_often {N : Nat} {n k : Nat} {x a b : Nat → Nat} {σ : kS} (hP : ptV n k x a b σ) (hx : ∀ i, i < n → x i < 86) {A B : Nat} (hA : A < 86) (hB : B < 86) : ∀ (d j acc f : Nat), n ≤ j + d → d < f → acc ≤ j → j ≤ 202 →
    kb_PM_often_5 N f σ (nI A) (nI B) (nI acc) (nI j) = some (nI (acc + oft x n A B d j), σ) := by
  obtain ⟨hn, hk, p1, p2, p3, p4⟩ := hP
  intro d
  induction d with
  | zero =>
    intro j acc f hd hf hacc hj
    obtain ⟨f', rfl⟩ : ∃ f', f = f' + 1 := ⟨f - 1, by omega⟩
    rw [kb_PM_often_5, p1, nI_1, if_pos (by rw [nI_leI (by omega) (by omega)]; omega)]
    rfl
  | succ d ih =>
    intro j acc f hd hf hacc hj
    obtain ⟨f', rfl⟩ : ∃ f', f = f' + 1 := ⟨f - 1, by omega⟩
    rw [kb_PM_often_5, p1, nI_1]
    by_cases h0 : j + 1 < n
    · have t1 := p3 j (by omega)
      have t2 := p3 (j + 1) h0
      have b1 := hx j (by omega)
      have b2 := hx (j + 1) h0
      have no : ¬ (x j = A ∧ x (j + 1) = B) → kb_PM_often_44 N (kb_PM_often_5 N f') σ (nI A) (nI B) (nI acc) (nI j) = some (nI (acc + oft x n A B (d + 1) j), σ) := by
        intro q
        have e : oft x n A B (d + 1) j = oft x n A B d (j + 1) := by
          show (if j + 1 < n then _ else _) = _
          rw [if_pos h0, if_neg q]
        unfold kb_PM_often_44 kb_PM_often_45 kb_PM_often_58 kb_PM_often_72
        rw [if_pos rfl, if_pos rfl, Int32.add_zero, nI_1, e]
        exact ih (j + 1) acc f' (by omega) (by omega) (by omega) (by omega)
      rw [if_neg (by rw [nI_leI (by omega) (by omega)]; omega), mj_tab_nI (by omega) (by omega), Option.bind_some, t1, mj_tab_nI (by omega) (by omega), Option.bind_some, t2]
      by_cases ea : x j = A
      · rw [if_pos (by rw [ea])]
        by_cases eb : x (j + 1) = B
        · have e : oft x n A B (d + 1) j = oft x n A B d (j + 2) + 1 := by
            show (if j + 1 < n then _ else _) = _
            rw [if_pos h0, if_pos ⟨ea, eb⟩]
          rw [if_pos (by rw [eb])]
          unfold kb_PM_often_45 kb_PM_often_58 kb_PM_often_72
          rw [if_neg (by decide), if_neg (by decide), nI_1, show nI j + 2 = nI (j + 2) from nI_add j 2, e]
          have := ih (j + 2) (acc + 1) f' (by omega) (by omega) (by omega) (by omega)
          rw [this]
          congr 3
          omega
        · rw [if_neg (fun q => eb ((nI_eq (by omega) (by omega)).mp q))]
          exact no (fun q => eb q.2)
      · rw [if_neg (fun q => ea ((nI_eq (by omega) (by omega)).mp q))]
        exact no (fun q => ea q.1)
    · have e : oft x n A B (d + 1) j = 0 := by
        show (if j + 1 < n then _ else _) = _
        rw [if_neg h0]
      rw [if_pos (by rw [nI_leI (by omega) (by omega)]; omega), e]
      rfl
