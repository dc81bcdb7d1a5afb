/-! THE TAPE, 23: a node more -/
def m3 (p q r k : Nat) : Nat := if k = 0 then p else if k = 1 then q else r
/-- the tape with one node more -/
def xE (X : tX) (o a b s : Nat) (P : Nat → Nat) : tX := (x_n X + 1, fun i => if i = x_n X then o else x_o X i, fun i => if i = x_n X then a else x_a X i, fun i => if i = x_n X then b else x_b X i, fun i => if i = x_n X then s else x_s X i, fun i => if i = x_n X then P else x_P X i)
theorem xE_n (X : tX) (o a b s : Nat) (P : Nat → Nat) : x_n (xE X o a b s P) = x_n X + 1 := rfl
theorem xE_eq (X : tX) (o a b s : Nat) (P : Nat → Nat) : x_eq X (xE X o a b s P) (x_n X) := fun i hi => by
  have e : i ≠ x_n X := by omega
  exact ⟨if_neg e, if_neg e, if_neg e, if_neg e, if_neg e⟩
theorem xE_new (X : tX) (o a b s : Nat) (P : Nat → Nat) : x_o (xE X o a b s P) (x_n X) = o ∧ x_a (xE X o a b s P) (x_n X) = a ∧ x_b (xE X o a b s P) (x_n X) = b ∧ x_s (xE X o a b s P) (x_n X) = s ∧ x_P (xE X o a b s P) (x_n X) = P := ⟨if_pos rfl, if_pos rfl, if_pos rfl, if_pos rfl, if_pos rfl⟩
theorem x_nd_eq {X Y : tX} {m i : Nat} (h : x_eq X Y m) (hi : i < m) (g : x_nd X i) : x_nd Y i := by
  obtain ⟨e1, e2, e3, e4, e5⟩ := h i hi
  obtain ⟨g1, g2, g3⟩ := g
  unfold x_nd
  rw [e1, e2, e3, e4, e5]
  refine ⟨g1, g2, fun ho => ?_⟩
  obtain ⟨q1, q2, q3⟩ := g3 ho
  obtain ⟨a1, a2, a3, a4, a5⟩ := h _ (show x_a X i < m by omega)
  refine ⟨q1, q2, ?_⟩
  rw [a4, a5]
  by_cases h5 : x_o X i < 5
  · obtain ⟨b1, b2, b3, b4, b5⟩ := h _ (show x_b X i < m by have := q2 h5; omega)
    rw [b4, b5]
    exact q3
  · unfold x_fit at q3 ⊢
    rw [if_neg (show ¬ x_o X i < 4 by omega), if_neg (show ¬ x_o X i = 4 by omega)] at q3 ⊢
    exact q3
theorem xE_ok {X : tX} (ok : x_ok X) (hn : x_n X < 50) {o a b s : Nat} {P : Nat → Nat} (ho : o ≤ 16) (sh : x_sh s P) (hf : o < 16 → a < x_n X ∧ (o < 5 → b < x_n X) ∧ x_fit o b s (x_s X a) (x_s X b) P (x_P X a) (x_P X b)) : x_ok (xE X o a b s P) := by
  refine ⟨by rw [xE_n]; omega, fun i hi => ?_⟩
  rw [xE_n] at hi
  by_cases e : i = x_n X
  · subst e
    obtain ⟨n1, n2, n3, n4, n5⟩ := xE_new X o a b s P
    unfold x_nd
    rw [n1, n2, n3, n4, n5]
    refine ⟨ho, sh, fun h16 => ?_⟩
    obtain ⟨q1, q2, q3⟩ := hf h16
    obtain ⟨a1, a2, a3, a4, a5⟩ := xE_eq X o a b s P a q1
    refine ⟨q1, q2, ?_⟩
    rw [a4, a5]
    by_cases h5 : o < 5
    · obtain ⟨b1, b2, b3, b4, b5⟩ := xE_eq X o a b s P b (q2 h5)
      rw [b4, b5]
      exact q3
    · unfold x_fit at q3 ⊢
      rw [if_neg (show ¬ o < 4 by omega), if_neg (show ¬ o = 4 by omega)] at q3 ⊢
      exact q3
  · exact x_nd_eq (xE_eq X o a b s P) (show i < x_n X by omega) (ok.2 i (by omega))
/-- the values with the new node's -/
def VE (X : tX) (V : tF) (o a b s : Nat) (P : Nat → Nat) : tF := VV (xE X o a b s P) (fun i c => if i = x_n X then some 0 else V i c) (x_n X + 1)
theorem VE_old {X : tX} (ok : x_ok X) {V : tF} (xv : xV X V) (o a b s : Nat) (P : Nat → Nat) {i : Nat} (hi : i < x_n X) : VE X V o a b s P i = V i := by
  unfold VE
  rw [VV_lt (x_n X + 1) (by omega), ← VV_lt (x_n X) hi, VV_cong (X := X) (L := V) ok (x_n X) (Nat.le_refl _) (xE_eq X o a b s P) (fun j hj _ => by
    funext c
    exact if_neg (by omega)) i hi, VV_self xv (x_n X) (Nat.le_refl _)]
theorem VE_g {X : tX} {V : tF} (gV : gF V) (o a b s : Nat) (P : Nat → Nat) : gF (VE X V o a b s P) := gF_VV (fun i c => fG_ite fG_Z (gV i c)) _
theorem VE_x {X : tX} {V : tF} {o a b s : Nat} {P : Nat → Nat} (ok : x_ok (xE X o a b s P)) : xV (xE X o a b s P) (VE X V o a b s P) := xV_VV ok _
theorem VE_leaf {X : tX} {V : tF} {a b s : Nat} {P : Nat → Nat} (c : Nat) : VE X V 16 a b s P (x_n X) c = some 0 := by
  unfold VE
  rw [VV_leaf (xE_new X 16 a b s P).1]
  exact if_pos rfl
theorem m3_sh {p q r : Nat} : m3 p q r 0 = p ∧ m3 p q r 1 = q ∧ m3 p q r 2 = r := ⟨rfl, rfl, rfl⟩
abbrev spd (p q : Nat) : Prop := p = q ∨ p = 1 ∨ q = 1
theorem ite_b {c : Prop} [Decidable c] {x y : Nat} (hx : 1 ≤ x ∧ x ≤ 64) (hy : 1 ≤ y ∧ y ≤ 64) : 1 ≤ (if c then x else y) ∧ (if c then x else y) ≤ 64 := by
  split
  · exact hx
  · exact hy
theorem ite_n {c : Prop} [Decidable c] {x y z : Nat} (h : ¬ c) (hy : y = z) : (if c then x else y) = z := (if_neg h).trans hy
theorem ite_p {c : Prop} [Decidable c] {x y z : Nat} (h : c) (hx : x = z) : (if c then x else y) = z := (if_pos h).trans hx
/-- the sides of an act, where it fits -/
def x_mk (X : tX) (o a : Nat) (v : Int32) : Option (Nat × Nat × (Nat → Nat)) :=
  if o < 4 then (if spd (x_P X a 0) (x_P X v.toNatClampNeg 0) ∧ spd (x_P X a 1) (x_P X v.toNatClampNeg 1) ∧ spd (x_P X a 2) (x_P X v.toNatClampNeg 2) then some (v.toNatClampNeg, max (x_s X a) (x_s X v.toNatClampNeg), fun k => max (x_P X a k) (x_P X v.toNatClampNeg k)) else none)
  else if o = 4 then (if x_s X a = 2 ∧ x_s X v.toNatClampNeg = 2 ∧ x_P X a 2 = x_P X v.toNatClampNeg 1 then some (v.toNatClampNeg, 2, m3 1 (x_P X a 1) (x_P X v.toNatClampNeg 2)) else none)
  else if o < 8 then (if 0 ≤ v.toInt ∧ v.toInt ≤ (x_s X a : Int) - 1 then some (v.toNatClampNeg, x_s X a - 1, m3 1 (if 3 - x_s X a + v.toNatClampNeg = 0 then x_P X a 1 else x_P X a 0) (if 3 - x_s X a + v.toNatClampNeg = 2 then x_P X a 1 else x_P X a 2)) else none)
  else if o = 8 then (if x_s X a ≠ 0 ∧ 0 ≤ v.toInt ∧ v.toInt ≤ (x_P X a (3 - x_s X a) : Int) - 1 then some (v.toNatClampNeg, x_s X a - 1, m3 1 (if 3 - x_s X a = 0 then x_P X a 1 else x_P X a 0) (if 3 - x_s X a = 2 then x_P X a 1 else x_P X a 2)) else none)
  else if v = 0 then (if o = 9 then (if 2 ≤ x_s X a then some (0, x_s X a, m3 (x_P X a 0) (x_P X a 2) (x_P X a 1)) else none)
    else if o = 14 then some (0, 1, m3 1 1 (c3 (x_P X a))) else if o = 15 then some (0, 0, m3 1 1 1) else some (0, x_s X a, x_P X a)) else none
theorem v_clamp {v : Int32} {m : Nat} (h0 : 0 ≤ v.toInt) (h1 : v.toInt ≤ (m : Int)) (hm : m < 2 ^ 30) : v.toNatClampNeg ≤ m ∧ v = nI v.toNatClampNeg ∧ (v.toNatClampNeg : Int) = v.toInt := by
  obtain ⟨c, h2, h3⟩ := nI_ofR (v := v) (m := m) h0 h1
  subst h3
  rw [nI_clamp (by omega), nI_toInt (by omega)]
  exact ⟨h2, rfl, rfl⟩
theorem x_mk_ok {X : tX} (ok : x_ok X) {o a b s : Nat} {P : Nat → Nat} {v : Int32} (ho : o < 16) (ha : a < x_n X) (hb : o < 5 → ∃ j, j < x_n X ∧ v = nI j) (h : x_mk X o a v = some (b, s, P)) : v = nI b ∧ b < 64 ∧ (o < 5 → b < x_n X) ∧ x_fit o b s (x_s X a) (x_s X b) P (x_P X a) (x_P X b) ∧ s ≤ 3 ∧ (∀ k, k < 3 → 1 ≤ P k ∧ P k ≤ 64) ∧ (∀ k, k + s < 3 → P k = 1) := by
  have hn := ok.1
  have sa := (ok.2 a ha).2.1
  obtain ⟨s3, pb, pd, c64⟩ := sa
  have p0 := pb 0 (by omega)
  have p1 := pb 1 (by omega)
  have p2 := pb 2 (by omega)
  unfold x_mk at h
  unfold x_fit
  by_cases h4 : o < 4
  · obtain ⟨j, hj, rfl⟩ := hb (by omega)
    obtain ⟨t3, qb, qd, d64⟩ := (ok.2 j hj).2.1
    rw [nI_clamp (by omega), if_pos h4] at h
    by_cases hc : spd (x_P X a 0) (x_P X j 0) ∧ spd (x_P X a 1) (x_P X j 1) ∧ spd (x_P X a 2) (x_P X j 2)
    · rw [if_pos hc] at h
      cases h
      refine ⟨rfl, by omega, fun _ => hj, ?_, by omega, fun k hk => ?_, fun k hk => ?_⟩
      · rw [if_pos h4]
        refine ⟨rfl, fun k hk => ⟨rfl, ?_⟩⟩
        obtain rfl | rfl | rfl : k = 0 ∨ k = 1 ∨ k = 2 := by omega
        · exact hc.1
        · exact hc.2.1
        · exact hc.2.2
      · have h1 := pb k hk
        have h2 := qb k hk
        show 1 ≤ max (x_P X a k) (x_P X b k) ∧ max (x_P X a k) (x_P X b k) ≤ 64
        omega
      · show max (x_P X a k) (x_P X b k) = 1
        rw [pd k (by omega), qd k (by omega)]
        rfl
    · rw [if_neg hc] at h
      cases h
  rw [if_neg h4] at h ⊢
  by_cases h4' : o = 4
  · obtain ⟨j, hj, rfl⟩ := hb (by omega)
    obtain ⟨t3, qb, qd, d64⟩ := (ok.2 j hj).2.1
    have q2 := qb 2 (by omega)
    rw [nI_clamp (by omega), if_pos h4'] at h
    by_cases hc : x_s X a = 2 ∧ x_s X j = 2 ∧ x_P X a 2 = x_P X j 1
    · rw [if_pos hc] at h
      cases h
      refine ⟨rfl, by omega, fun _ => hj, ?_, by omega, fun k hk => ?_, fun k hk => ?_⟩
      · rw [if_pos h4']
        exact ⟨rfl, hc.1, hc.2.1, hc.2.2, rfl, rfl, rfl⟩
      · obtain rfl | rfl | rfl : k = 0 ∨ k = 1 ∨ k = 2 := by omega
        · exact ⟨Nat.le_refl 1, by show 1 ≤ 64; omega⟩
        · exact p1
        · exact q2
      · have : k = 0 := by omega
        subst this
        rfl
    · rw [if_neg hc] at h
      cases h
  rw [if_neg h4'] at h ⊢
  by_cases h8 : o < 8
  · rw [if_pos h8] at h
    by_cases hc : 0 ≤ v.toInt ∧ v.toInt ≤ (x_s X a : Int) - 1
    · obtain ⟨w1, w2, w3⟩ := v_clamp (m := x_s X a - 1) hc.1 (by omega) (by omega)
      rw [if_pos hc] at h
      cases h
      refine ⟨w2, by omega, fun w => by omega, ?_, by omega, fun k hk => ?_, fun k hk => ?_⟩
      · rw [if_pos h8]
        exact ⟨by omega, by omega, rfl, rfl, rfl⟩
      · obtain rfl | rfl | rfl : k = 0 ∨ k = 1 ∨ k = 2 := by omega
        · exact ⟨Nat.le_refl 1, by show 1 ≤ 64; omega⟩
        · exact (ite_b (c := 3 - x_s X a + v.toNatClampNeg = 0) p1 p0)
        · exact (ite_b (c := 3 - x_s X a + v.toNatClampNeg = 2) p1 p2)
      · obtain rfl | rfl | rfl : k = 0 ∨ k = 1 ∨ k = 2 := by omega
        · rfl
        · exact ite_n (c := 3 - x_s X a + v.toNatClampNeg = 0) (by omega) (pd 0 (by omega))
        · exact ite_p (c := 3 - x_s X a + v.toNatClampNeg = 2) (by omega) (pd 1 (by omega))
    · rw [if_neg hc] at h
      cases h
  rw [if_neg h8] at h ⊢
  by_cases h9 : o = 8
  · rw [if_pos h9] at h
    by_cases hc : x_s X a ≠ 0 ∧ 0 ≤ v.toInt ∧ v.toInt ≤ (x_P X a (3 - x_s X a) : Int) - 1
    · have := pb (3 - x_s X a) (by omega)
      obtain ⟨w1, w2, w3⟩ := v_clamp (m := x_P X a (3 - x_s X a) - 1) hc.2.1 (by omega) (by omega)
      rw [if_pos hc] at h
      cases h
      refine ⟨w2, by omega, fun w => by omega, ?_, by omega, fun k hk => ?_, fun k hk => ?_⟩
      · rw [if_pos h9]
        exact ⟨by omega, by omega, by omega, rfl, rfl, rfl⟩
      · obtain rfl | rfl | rfl : k = 0 ∨ k = 1 ∨ k = 2 := by omega
        · exact ⟨Nat.le_refl 1, by show 1 ≤ 64; omega⟩
        · exact (ite_b (c := 3 - x_s X a = 0) p1 p0)
        · exact (ite_b (c := 3 - x_s X a = 2) p1 p2)
      · obtain rfl | rfl | rfl : k = 0 ∨ k = 1 ∨ k = 2 := by omega
        · rfl
        · exact ite_n (c := 3 - x_s X a = 0) (by omega) (pd 0 (by omega))
        · exact ite_p (c := 3 - x_s X a = 2) (by omega) (pd 1 (by omega))
    · rw [if_neg hc] at h
      cases h
  rw [if_neg h9] at h ⊢
  by_cases hv : v = 0
  · rw [if_pos hv] at h
    subst hv
    by_cases h10 : o = 9
    · rw [if_pos h10] at h
      by_cases hc : 2 ≤ x_s X a
      · rw [if_pos hc] at h
        cases h
        refine ⟨rfl, by omega, fun w => by omega, ?_, by omega, fun k hk => ?_, fun k hk => ?_⟩
        · rw [if_pos h10]
          exact ⟨rfl, hc, rfl, rfl, rfl, rfl⟩
        · obtain rfl | rfl | rfl : k = 0 ∨ k = 1 ∨ k = 2 := by omega
          · exact p0
          · exact p2
          · exact p1
        · have : k = 0 := by omega
          subst this
          exact pd 0 (by omega)
      · rw [if_neg hc] at h
        cases h
    · rw [if_neg h10] at h ⊢
      by_cases h14 : o = 14
      · rw [if_pos h14] at h
        cases h
        refine ⟨rfl, by omega, fun w => by omega, ?_, by omega, fun k hk => ?_, fun k hk => ?_⟩
        · rw [if_pos h14]
          exact ⟨rfl, rfl, rfl, rfl, rfl⟩
        · obtain rfl | rfl | rfl : k = 0 ∨ k = 1 ∨ k = 2 := by omega
          · exact ⟨Nat.le_refl 1, by show 1 ≤ 64; omega⟩
          · exact ⟨Nat.le_refl 1, by show 1 ≤ 64; omega⟩
          · exact ⟨Nat.mul_pos (Nat.mul_pos p0.1 p1.1) p2.1, c64⟩
        · obtain rfl | rfl : k = 0 ∨ k = 1 := by omega
          · rfl
          · rfl
      · rw [if_neg h14] at h ⊢
        by_cases h15 : o = 15
        · rw [if_pos h15] at h
          cases h
          refine ⟨rfl, by omega, fun w => by omega, ?_, by omega, fun k hk => ?_, fun k hk => ?_⟩
          · rw [if_pos h15]
            exact ⟨rfl, rfl, rfl, rfl, rfl⟩
          · obtain rfl | rfl | rfl : k = 0 ∨ k = 1 ∨ k = 2 := by omega
            · exact ⟨Nat.le_refl 1, by show 1 ≤ 64; omega⟩
            · exact ⟨Nat.le_refl 1, by show 1 ≤ 64; omega⟩
            · exact ⟨Nat.le_refl 1, by show 1 ≤ 64; omega⟩
          · obtain rfl | rfl | rfl : k = 0 ∨ k = 1 ∨ k = 2 := by omega
            · rfl
            · rfl
            · rfl
        · rw [if_neg h15] at h
          cases h
          refine ⟨rfl, by omega, fun w => by omega, ?_, s3, pb, pd⟩
          rw [if_neg h15]
          exact ⟨rfl, rfl, rfl, rfl, rfl⟩
  · rw [if_neg hv] at h
    cases h
