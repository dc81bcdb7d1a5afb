/-! ALL OF IT, 5: a node more in the memory -/
abbrev rE (ρ : tR) (rR : Nat → Option Nat) (hH : Nat → Int32) (wW : Nat → Option (Nat → Int32)) (aA : Nat → Nat) : tR := (t_n ρ + 1, fun i f => if i = t_n ρ then rR f else t_R ρ i f, fun i f => if i = t_n ρ then hH f else t_H ρ i f, fun i f => if i = t_n ρ then wW f else t_W ρ i f, fun i c => if i = t_n ρ then aA c else t_A ρ i c)
abbrev tE (n : Nat) (τ : tS) (iN : Nat → Int32) (vN : Nat → Nat → Int64) : tS := (upd τ.1 1 (nI (n + 1)), τ.2.1, fun i => if i = n then iN else τ.2.2.1 i, fun i => if i = n then (fun _ => 0) else τ.2.2.2.1 i, fun i => if i = n then vN else τ.2.2.2.2 i)
abbrev lE (n : Nat) (Λ : tQ) (aA : Nat → Nat) : tQ := (Λ.1, fun a => if a = aA 0 then some (n, 0) else if a = aA 1 then some (n, 1) else if a = aA 2 then some (n, 2) else Λ.2 a)
theorem rE_A (ρ : tR) (rR : Nat → Option Nat) (hH : Nat → Int32) (wW : Nat → Option (Nat → Int32)) (aA : Nat → Nat) (i c : Nat) : t_A (rE ρ rR hH wW aA) i c = if i = t_n ρ then aA c else t_A ρ i c := rfl
theorem gT_add {B : Nat} {Λ : tQ} {ρ : tR} {τ : tS} {M M' : mv_M} (h : gT B Λ ρ τ M) {rR : Nat → Option Nat} {hH : Nat → Int32} {wW : Nat → Option (Nat → Int32)} {aA : Nat → Nat} {iN : Nat → Int32} {vN : Nat → Nat → Int64}
    (hM : M.1 ≤ M'.1) (hR : ∀ f j, rR f = some j → j < t_n ρ)
    (f0 : M.1 ≤ aA 0 ∧ aA 0 < M'.1) (f1 : M.1 ≤ aA 1 ∧ aA 1 < M'.1) (f2 : M.1 ≤ aA 2 ∧ aA 2 < M'.1) (d01 : aA 0 ≠ aA 1) (d02 : aA 0 ≠ aA 2) (d12 : aA 1 ≠ aA 2) (hB : B + 40 ≤ M.1)
    (c1 : M'.2.2 (B + 1) = some (.inr (7, t_tape (B + 1) (tE (t_n ρ) τ iN vN))))
    (c2 : M'.2.2 (B + 2) = some (.inl (3, 50, .inr (.inr (.inr (.inr (fun j => if j < t_n ρ + 1 then some (t_A (rE ρ rR hH wW aA) j 0) else none)))))))
    (c3' : M'.2.2 (aA 0) = some (.inr (2, t_node (rE ρ rR hH wW aA) (tE (t_n ρ) τ iN vN) (t_n ρ))))
    (c4 : M'.2.2 (aA 1) = some (.inl (1, (hH 4).toNatClampNeg, .inr (.inl (vN 9))))) (c5 : M'.2.2 (aA 2) = some (.inl (1, (hH 4).toNatClampNeg, .inr (.inl (vN 10)))))
    (s1 : B + 40 ≤ aA 3 ∧ aA 3 < M'.1) (s2 : aA 3 ≠ aA 0 ∧ aA 3 ≠ aA 1 ∧ aA 3 ≠ aA 2) (s3 : Λ.2 (aA 3) = none) (s4 : M'.2.2 (aA 3) = some (.inr (5, [.int (hH 0), .int (hH 1), .int (hH 2), .int (hH 3), .int (hH 4)])))
    (w1 : ∀ f v, wW f = some v → (M.1 ≤ aA f ∧ aA f < M'.1) ∧ (aA f ≠ aA 0 ∧ aA f ≠ aA 1 ∧ aA f ≠ aA 2) ∧ M'.2.2 (aA f) = some (.inr (9, [.int (v 0), .int (v 1), .int (v 2), .int (v 3), .int (v 4)])))
    (c8 : ∀ a, B + 40 ≤ a → a < M.1 → M'.2.2 a = M.2.2 a) : gT B (lE (t_n ρ) Λ aA) (rE ρ rR hH wW aA) (tE (t_n ρ) τ iN vN) M' := by
  obtain ⟨e1, ⟨k1, k2, k3, k4, k5, k6⟩, e3, e4, e5, e6⟩ := h
  have nw : ∀ a, M.1 ≤ a → Λ.2 a = none := fun a ha => by
    cases hq : Λ.2 a with
    | none => rfl
    | some q => have := (e4 a q hq).2; omega
  have old : ∀ a, a < M.1 → (lE (t_n ρ) Λ aA).2 a = Λ.2 a := fun a ha => by
    show (if a = aA 0 then _ else if a = aA 1 then _ else if a = aA 2 then _ else Λ.2 a) = _
    rw [if_neg (by omega), if_neg (by omega), if_neg (by omega)]
  have cO : ∀ q : Nat × Nat, q.1 < t_n ρ → t_cell (rE ρ rR hH wW aA) (tE (t_n ρ) τ iN vN) q = t_cell ρ τ q := fun q hq => by
    obtain ⟨i, c⟩ := q
    have hi : i ≠ t_n ρ := by show i ≠ _; have : i < t_n ρ := hq; omega
    have mp : ∀ x : Option Nat, (∀ j, x = some j → j < t_n ρ) → x.map (fun j => t_A (rE ρ rR hH wW aA) j 0) = x.map (fun j => t_A ρ j 0) := fun x hx => by
      cases x with
      | none => rfl
      | some j =>
        have := hx j rfl
        show some (if j = t_n ρ then aA 0 else t_A ρ j 0) = some (t_A ρ j 0)
        rw [if_neg (by omega)]
    have nd : t_node (rE ρ rR hH wW aA) (tE (t_n ρ) τ iN vN) i = t_node ρ τ i := by
      have hA : ∀ c, t_A (rE ρ rR hH wW aA) i c = t_A ρ i c := fun c => if_neg hi
      have hR' : ∀ f, t_R (rE ρ rR hH wW aA) i f = t_R ρ i f := fun f => if_neg hi
      have hW : ∀ f, t_W (rE ρ rR hH wW aA) i f = t_W ρ i f := fun f => if_neg hi
      have hI : (tE (t_n ρ) τ iN vN).2.2.1 i = τ.2.2.1 i := if_neg hi
      have hQ : (tE (t_n ρ) τ iN vN).2.2.2.1 i = τ.2.2.2.1 i := if_neg hi
      unfold t_node
      rw [hA 3, hR' 4, hR' 5, mp _ (fun j hj => k6 i hq 4 j hj), mp _ (fun j hj => k6 i hq 5 j hj), hW 6, hA 6, hW 7, hA 7, hA 1, hA 2, hI, hQ]
    have ln : t_len (rE ρ rR hH wW aA) i = t_len ρ i := by
      show ((if i = t_n ρ then hH 4 else t_H ρ i 4) : Int32).toNatClampNeg = _
      rw [if_neg hi]
    have vl : (tE (t_n ρ) τ iN vN).2.2.2.2 i = τ.2.2.2.2 i := if_neg hi
    match c with
    | 0 => show Sum.inr (2, t_node _ _ i) = Sum.inr (2, t_node ρ τ i); rw [nd]
    | 1 => show Sum.inl (1, t_len _ i, _) = Sum.inl (1, t_len ρ i, _); rw [ln, vl]
    | n + 2 => show Sum.inl (1, t_len _ i, _) = Sum.inl (1, t_len ρ i, _); rw [ln, vl]
  have len : t_len (rE ρ rR hH wW aA) (t_n ρ) = (hH 4).toNatClampNeg := by
    show ((if t_n ρ = t_n ρ then hH 4 else t_H ρ (t_n ρ) 4) : Int32).toNatClampNeg = _
    rw [if_pos rfl]
  have vv : (tE (t_n ρ) τ iN vN).2.2.2.2 (t_n ρ) = vN := if_pos rfl
  refine ⟨e1, ⟨fun i hi c hc => ?_, fun a q hq => ?_, ⟨?_, ?_⟩, fun i hi => ?_, fun i hi f v hv => ?_, fun i hi f j hj => ?_⟩, fun a => ?_, fun a q hq => ?_, fun i hi => ?_, fun i hi f v hv => ?_⟩
  · rw [rE_A]
    by_cases ei : i = t_n ρ
    · rw [if_pos ei, ei]
      show (if aA c = aA 0 then _ else if aA c = aA 1 then _ else if aA c = aA 2 then _ else Λ.2 (aA c)) = _ ∧ aA c ≠ Λ.1
      obtain rfl | rfl | rfl : c = 0 ∨ c = 1 ∨ c = 2 := by omega
      · rw [if_pos rfl]
        exact ⟨rfl, by omega⟩
      · rw [if_neg (Ne.symm d01), if_pos rfl]
        exact ⟨rfl, by omega⟩
      · rw [if_neg (Ne.symm d02), if_neg (Ne.symm d12), if_pos rfl]
        exact ⟨rfl, by omega⟩
    · rw [if_neg ei]
      have hi' : i < t_n ρ := by have : i < t_n ρ + 1 := hi; omega
      obtain ⟨q1, q2⟩ := k1 i hi' c hc
      have := (e4 _ _ q1).2
      rw [old _ this]
      exact ⟨q1, q2⟩
  · have hq' : (if a = aA 0 then some (t_n ρ, 0) else if a = aA 1 then some (t_n ρ, 1) else if a = aA 2 then some (t_n ρ, 2) else Λ.2 a) = some q := hq
    by_cases a0 : a = aA 0
    · rw [if_pos a0] at hq'
      cases hq'
      refine ⟨by show t_n ρ < t_n ρ + 1; omega, by show 0 < 3; omega, ?_⟩
      rw [rE_A, if_pos rfl, a0]
    rw [if_neg a0] at hq'
    by_cases a1 : a = aA 1
    · rw [if_pos a1] at hq'
      cases hq'
      refine ⟨by show t_n ρ < t_n ρ + 1; omega, by show 1 < 3; omega, ?_⟩
      rw [rE_A, if_pos rfl, a1]
    rw [if_neg a1] at hq'
    by_cases a2 : a = aA 2
    · rw [if_pos a2] at hq'
      cases hq'
      refine ⟨by show t_n ρ < t_n ρ + 1; omega, by show 2 < 3; omega, ?_⟩
      rw [rE_A, if_pos rfl, a2]
    rw [if_neg a2] at hq'
    obtain ⟨q1, q2, q3⟩ := k2 a q hq'
    refine ⟨by show q.1 < t_n ρ + 1; omega, q2, ?_⟩
    rw [rE_A, if_neg (by omega)]
    exact q3
  · show (lE (t_n ρ) Λ aA).2 (Λ.1 + 1) = none
    rw [old _ (by omega)]
    exact k3.1
  · show M'.2.2 (Λ.1 + 1) = _
    rw [e1]
    exact c2
  · rw [rE_A]
    by_cases ei : i = t_n ρ
    · rw [if_pos ei]
      have h1 : (lE (t_n ρ) Λ aA).2 (aA 3) = none := by
        show (if aA 3 = aA 0 then _ else if aA 3 = aA 1 then _ else if aA 3 = aA 2 then _ else Λ.2 (aA 3)) = _
        rw [if_neg s2.1, if_neg s2.2.1, if_neg s2.2.2, s3]
      refine ⟨h1, by show aA 3 ≠ Λ.1; omega, ?_⟩
      have hh : ∀ f, t_H (rE ρ rR hH wW aA) (t_n ρ) f = hH f := fun f => if_pos rfl
      rw [s4, ei, hh 0, hh 1, hh 2, hh 3, hh 4]
    · rw [if_neg ei]
      have hi' : i < t_n ρ := by have : i < t_n ρ + 1 := hi; omega
      obtain ⟨q1, q2, q3⟩ := k4 i hi'
      have b := e5 i hi'
      refine ⟨by rw [old _ b.2]; exact q1, q2, ?_⟩
      have hh : ∀ f, t_H (rE ρ rR hH wW aA) i f = t_H ρ i f := fun f => if_neg ei
      rw [c8 _ b.1 b.2, q3, hh 0, hh 1, hh 2, hh 3, hh 4]
  · have hv' : (if i = t_n ρ then wW f else t_W ρ i f) = some v := hv
    rw [rE_A]
    by_cases ei : i = t_n ρ
    · rw [if_pos ei] at hv' ⊢
      obtain ⟨q1, q2, q3⟩ := w1 f v hv'
      refine ⟨?_, by show aA f ≠ Λ.1; omega, q3⟩
      show (if aA f = aA 0 then _ else if aA f = aA 1 then _ else if aA f = aA 2 then _ else Λ.2 (aA f)) = _
      rw [if_neg q2.1, if_neg q2.2.1, if_neg q2.2.2, nw _ q1.1]
    · rw [if_neg ei] at hv' ⊢
      have hi' : i < t_n ρ := by have : i < t_n ρ + 1 := hi; omega
      obtain ⟨q1, q2, q3⟩ := k5 i hi' f v hv'
      have b := e6 i hi' f v hv'
      refine ⟨by rw [old _ b.2]; exact q1, q2, ?_⟩
      rw [c8 _ b.1 b.2]
      exact q3
  · have hj' : (if i = t_n ρ then rR f else t_R ρ i f) = some j := hj
    show j < t_n ρ + 1
    by_cases ei : i = t_n ρ
    · rw [if_pos ei] at hj'
      have := hR f j hj'
      omega
    · rw [if_neg ei] at hj'
      have hi' : i < t_n ρ := by have : i < t_n ρ + 1 := hi; omega
      have := k6 i hi' f j hj'
      omega
  · have gg := e3 a
    by_cases ha : a = Λ.1
    · subst ha
      have : (wT (lE (t_n ρ) Λ aA) (rE ρ rR hH wW aA) M' (tE (t_n ρ) τ iN vN)).2.2 Λ.1 = some (.inr (7, t_tape Λ.1 (tE (t_n ρ) τ iN vN))) := wT_tp
      rw [this, e1]
      exact c1.symm
    · show (if a = Λ.1 then _ else match (lE (t_n ρ) Λ aA).2 a with | some q => some (t_cell (rE ρ rR hH wW aA) (tE (t_n ρ) τ iN vN) q) | none => M'.2.2 a) = M'.2.2 a
      rw [if_neg ha]
      cases hq : (lE (t_n ρ) Λ aA).2 a with
      | none => rfl
      | some q =>
        show some (t_cell (rE ρ rR hH wW aA) (tE (t_n ρ) τ iN vN) q) = M'.2.2 a
        have hq' : (if a = aA 0 then some (t_n ρ, 0) else if a = aA 1 then some (t_n ρ, 1) else if a = aA 2 then some (t_n ρ, 2) else Λ.2 a) = some q := hq
        by_cases a0 : a = aA 0
        · rw [if_pos a0] at hq'
          cases hq'
          rw [a0, c3']
          rfl
        rw [if_neg a0] at hq'
        by_cases a1 : a = aA 1
        · rw [if_pos a1] at hq'
          cases hq'
          rw [a1, c4, ← len]
          show some (Sum.inl (1, _, Sum.inr (Sum.inl ((tE (t_n ρ) τ iN vN).2.2.2.2 (t_n ρ) 9)))) = _
          rw [vv]
        rw [if_neg a1] at hq'
        by_cases a2 : a = aA 2
        · rw [if_pos a2] at hq'
          cases hq'
          rw [a2, c5, ← len]
          show some (Sum.inl (1, _, Sum.inr (Sum.inl ((tE (t_n ρ) τ iN vN).2.2.2.2 (t_n ρ) 10)))) = _
          rw [vv]
        rw [if_neg a2] at hq'
        have b := e4 a q hq'
        rw [cO q (k2 a q hq').1, c8 a b.1 b.2, ← gg]
        show _ = (if a = Λ.1 then _ else match Λ.2 a with | some q => some (t_cell ρ τ q) | none => M.2.2 a)
        rw [if_neg ha, hq']
  · have hq' : (if a = aA 0 then some (t_n ρ, 0) else if a = aA 1 then some (t_n ρ, 1) else if a = aA 2 then some (t_n ρ, 2) else Λ.2 a) = some q := hq
    by_cases a0 : a = aA 0
    · omega
    by_cases a1 : a = aA 1
    · omega
    by_cases a2 : a = aA 2
    · omega
    rw [if_neg a0, if_neg a1, if_neg a2] at hq'
    have := e4 a q hq'
    omega
  · rw [rE_A]
    by_cases ei : i = t_n ρ
    · rw [if_pos ei]
      exact s1
    · rw [if_neg ei]
      have hi' : i < t_n ρ := by have : i < t_n ρ + 1 := hi; omega
      have := e5 i hi'
      omega
  · have hv' : (if i = t_n ρ then wW f else t_W ρ i f) = some v := hv
    rw [rE_A]
    by_cases ei : i = t_n ρ
    · rw [if_pos ei] at hv' ⊢
      have := (w1 f v hv').1
      omega
    · rw [if_neg ei] at hv' ⊢
      have hi' : i < t_n ρ := by have : i < t_n ρ + 1 := hi; omega
      have := e6 i hi' f v hv'
      omega
