/-! ALL OF IT, 7: a node is appended -/
abbrev apA (f : Nat → Option Nat) (n q : Nat) : va_E := .inl (3, 50, .inr (.inr (.inr (.inr (va_up f n (some q))))))
abbrev apT (B n : Nat) (τ : tS) : va_E := .inr (7, [.ref (B + 1 + 1), .int (nI (n + 1)), .long (τ.2.1 2), .int (τ.1 3)])
abbrev apF (ρ : tR) : Nat → Option Nat := fun j => if j < t_n ρ then some (t_A ρ j 0) else none
/-- the memory after a node at q has been appended -/
abbrev apM (B : Nat) (ρ : tR) (τ : tS) (M : mv_M) (q : Nat) : mv_M := mj_set (mj_set M (B + 2) (apA (apF ρ) (t_n ρ) q)) (B + 1) (apT B (t_n ρ) τ)
theorem gm_tape {B : Nat} {ta py sc tk pm : kS} {Λ : tQ} {ρ : tR} {τ : tS} {M : mv_M} (h : GM B ta py sc tk pm Λ ρ τ M) : M.2.2 (B + 1) = some (.inr (7, t_tape (B + 1) τ)) ∧ M.2.2 (B + 2) = some (.inl (3, 50, .inr (.inr (.inr (.inr (apF ρ)))))) := by
  obtain ⟨e1, ⟨k1, k2, k3, k4, k5, k6⟩, e3, e4, e5, e6⟩ := h.2.2.2.2.2.2.2
  refine ⟨?_, ?_⟩
  · have := e3 (B + 1)
    rw [← this, ← e1, wT_tp]
  · have := k3.2
    rw [e1] at this
    exact this
theorem j_append {B : Nat} {ta py sc tk pm : kS} {Λ : tQ} {ρ : tR} {τ : tS} {M : mv_M} (h : GM B ta py sc tk pm Λ ρ τ M) (N : Nat) (hn : t_n ρ < 50) (h1 : τ.1 1 = nI (t_n ρ)) {m : Nat} {L : List va_E} {k : Nat} {fs : List Value} (hL : L[k]? = some (.inr (2, fs))) : jf_Tp_append N (nx M m L) (B + 1) (some (M.1 + k)) = some (nI (t_n ρ), nx (apM B ρ τ M (M.1 + k)) m L) := by
  obtain ⟨t1, t2⟩ := gm_tape h
  have hB := h.1
  have hk : k < L.length := by
    rcases Nat.lt_or_ge k L.length with w | w
    · exact w
    · rw [List.getElem?_eq_none w] at hL
      cases hL
  have t1' : (nx M m L).2.2 (B + 1) = some (.inr (7, t_tape (B + 1) τ)) := (nx_old M m L (by omega)).trans t1
  have g0 : mj_getR (nx M m L) (B + 1) 7 0 = some (some (B + 2)) := mj_getR_of (x := some (B + 2)) t1' rfl
  have g1 : mj_getI (nx M m L) (B + 1) 7 1 = some (nI (t_n ρ)) := mj_getI_of t1' (by show some (Value.int (τ.1 1)) = _; rw [h1])
  have ar : (nx M m L).2.2 (B + 2) = some (.inl (3, 50, .inr (.inr (.inr (.inr (apF ρ)))))) := (nx_old M m L (by omega)).trans t2
  have okr : mj_okR (nx M m L) 2 (some (M.1 + k)) = true := by
    have e := (nx_at M m L hk).trans hL
    unfold mj_okR
    simp [e]
  have rs : mj_rst (nx M m L) (B + 2) 3 2 (nI (t_n ρ)) (some (M.1 + k)) = some (nx (mj_set M (B + 2) (apA (apF ρ) (t_n ρ) (M.1 + k))) m L) := by
    unfold mj_rst
    rw [mj_arr_of ar]
    show (if mj_in (nI (t_n ρ)) 50 = true ∧ mj_okR (nx M m L) 2 (some (M.1 + k)) = true then _ else _) = _
    rw [if_pos ⟨mj_in_nI hn (by omega), okr⟩, nI_clamp (by omega), nx_seto M m L (by omega)]
  obtain ⟨M2, hM2⟩ : ∃ M2, M2 = mj_set M (B + 2) (apA (apF ρ) (t_n ρ) (M.1 + k)) := ⟨_, rfl⟩
  have m2 : M2.1 = M.1 := by rw [hM2]; rfl
  have t3 : (nx M2 m L).2.2 (B + 1) = some (.inr (7, t_tape (B + 1) τ)) := by
    rw [nx_old M2 m L (by omega), hM2, mj_at_ne (by omega)]
    exact t1
  have g2 : mj_getI (nx M2 m L) (B + 1) 7 1 = some (nI (t_n ρ)) := mj_getI_of t3 (by show some (Value.int (τ.1 1)) = _; rw [h1])
  have p1 : mj_put (nx M2 m L) (B + 1) 7 1 (.int (nI (t_n ρ + 1))) = some (nx (mj_set M2 (B + 1) (apT B (t_n ρ) τ)) m L) := by
    rw [mj_put_of t3 (Nat.le_of_ble_eq_true rfl), nx_seto M2 m L (by omega)]
    rfl
  obtain ⟨M3, hM3⟩ : ∃ M3, M3 = mj_set M2 (B + 1) (apT B (t_n ρ) τ) := ⟨_, rfl⟩
  have m3' : M3.1 = M.1 := by rw [hM3]; exact m2
  have t4 : (nx M3 m L).2.2 (B + 1) = some (apT B (t_n ρ) τ) := by
    rw [nx_old M3 m L (by omega), hM3, mj_at_set]
  have g3 : mj_getI (nx M3 m L) (B + 1) 7 1 = some (nI (t_n ρ + 1)) := mj_getI_of t4 rfl
  unfold jf_Tp_append jb_Tp_append_0
  rw [g0, Option.bind_some, g1, Option.bind_some, Option.bind_some, rs, Option.bind_some, ← hM2, g2, Option.bind_some, nI_1, p1, Option.bind_some, ← hM3, g3, Option.bind_some, show nI (t_n ρ + 1) - 1 = nI (t_n ρ + 1 - 1) from nI_sub (show 1 ≤ t_n ρ + 1 by omega), hM3, hM2]
  rfl
theorem g_fin {B : Nat} {ta py sc tk pm : kS} {Λ : tQ} {ρ : tR} {τ : tS} {M : mv_M} (h : GM B ta py sc tk pm Λ ρ τ M) {rR : Nat → Option Nat} {hH : Nat → Int32} {wW : Nat → Option (Nat → Int32)} {aA : Nat → Nat} {iN : Nat → Int32} {vN : Nat → Nat → Int64} (hR : ∀ f j, rR f = some j → j < t_n ρ) {m : Nat} {L : List va_E} {k0 k1 k2 : Nat}
    (a0 : aA 0 = M.1 + k0) (a1 : aA 1 = M.1 + k1) (a2 : aA 2 = M.1 + k2) (k12 : k1 ≠ k2)
    (l0 : L[k0]? = some (.inr (2, t_node (rE ρ rR hH wW aA) (tE (t_n ρ) τ iN vN) (t_n ρ)))) (l1 : L[k1]? = some (.inl (1, (hH 4).toNatClampNeg, .inr (.inl (vN 9))))) (l2 : L[k2]? = some (.inl (1, (hH 4).toNatClampNeg, .inr (.inl (vN 10)))))
    (s : (∃ k3, aA 3 = M.1 + k3 ∧ L[k3]? = some (.inr (5, [.int (hH 0), .int (hH 1), .int (hH 2), .int (hH 3), .int (hH 4)]))) ∨ (B + 40 ≤ aA 3 ∧ aA 3 < M.1 ∧ Λ.2 (aA 3) = none ∧ M.2.2 (aA 3) = some (.inr (5, [.int (hH 0), .int (hH 1), .int (hH 2), .int (hH 3), .int (hH 4)]))))
    (w : ∀ f v, wW f = some v → ∃ k, aA f = M.1 + k ∧ L[k]? = some (.inr (9, [.int (v 0), .int (v 1), .int (v 2), .int (v 3), .int (v 4)]))) : GM B ta py sc tk pm (lE (t_n ρ) Λ aA) (rE ρ rR hH wW aA) (tE (t_n ρ) τ iN vN) (nx (apM B ρ τ M (M.1 + k0)) m L) := by
  have hB := h.1
  have lt : ∀ {k : Nat} {x : va_E}, L[k]? = some x → k < L.length := fun {k x} hx => by
    rcases Nat.lt_or_ge k L.length with q | q
    · exact q
    · rw [List.getElem?_eq_none q] at hx
      cases hx
  have m1 : (apM B ρ τ M (M.1 + k0)).1 = M.1 := rfl
  have at' : ∀ k, k < L.length → (nx (apM B ρ τ M (M.1 + k0)) m L).2.2 (M.1 + k) = L[k]? := fun k hk => nx_at (apM B ρ τ M (M.1 + k0)) m L hk
  have od : ∀ a, a < M.1 → a ≠ B + 1 → a ≠ B + 2 → (nx (apM B ρ τ M (M.1 + k0)) m L).2.2 a = M.2.2 a := fun a ha h1 h2 => by
    rw [nx_old _ _ _ (by rw [m1]; exact ha), mj_at_ne h1, mj_at_ne h2]
  have ne : ∀ {k k' : Nat} {x y : va_E}, L[k]? = some x → L[k']? = some y → x ≠ y → k ≠ k' := fun hx hy hne e => by
    subst e
    rw [hx] at hy
    cases hy
    exact hne rfl
  have k01 : k0 ≠ k1 := ne l0 l1 (fun e => nomatch e)
  have k02 : k0 ≠ k2 := ne l0 l2 (fun e => nomatch e)
  refine GM_add h (Nat.le_add_right _ _) (gT_add h.2.2.2.2.2.2.2 (Nat.le_add_right _ _) hR ?_ ?_ ?_ ?_ ?_ ?_ hB ?_ ?_ ?_ ?_ ?_ ?_ ?_ ?_ ?_ ?_ (fun a ha hb => od a hb (by omega) (by omega))) (fun a ha h1 h2 => od a (by omega) h1 h2)
  · rw [a0]
    exact ⟨by omega, by show M.1 + k0 < M.1 + L.length; have := lt l0; omega⟩
  · rw [a1]
    exact ⟨by omega, by show M.1 + k1 < M.1 + L.length; have := lt l1; omega⟩
  · rw [a2]
    exact ⟨by omega, by show M.1 + k2 < M.1 + L.length; have := lt l2; omega⟩
  · rw [a0, a1]
    exact fun e => k01 (Nat.add_left_cancel e)
  · rw [a0, a2]
    exact fun e => k02 (Nat.add_left_cancel e)
  · rw [a1, a2]
    exact fun e => k12 (Nat.add_left_cancel e)
  · rw [nx_old _ _ _ (by rw [m1]; omega), mj_at_set]
    rfl
  · rw [nx_old _ _ _ (by rw [m1]; omega), mj_at_ne (by omega), mj_at_set]
    have : va_up (apF ρ) (t_n ρ) (some (M.1 + k0)) = fun j => if j < t_n ρ + 1 then some (t_A (rE ρ rR hH wW aA) j 0) else none := by
      funext j
      rw [rE_A]
      by_cases e : j = t_n ρ
      · rw [e, va_up_self, if_pos (by omega), if_pos rfl, a0]
      · rw [va_up_ne _ _ e, if_neg e]
        show (if j < t_n ρ then some (t_A ρ j 0) else none) = _
        by_cases q : j < t_n ρ
        · rw [if_pos q, if_pos (by omega)]
        · rw [if_neg q, if_neg (by omega)]
    exact congrArg (fun g => some (Sum.inl (3, 50, Sum.inr (Sum.inr (Sum.inr (Sum.inr g)))))) this
  · rw [a0, at' _ (lt l0), l0]
  · rw [a1, at' _ (lt l1), l1]
  · rw [a2, at' _ (lt l2), l2]
  · rcases s with ⟨k3, q1, q2⟩ | ⟨q1, q2, q3, q4⟩
    · rw [q1]
      exact ⟨by omega, by show M.1 + k3 < M.1 + L.length; have := lt q2; omega⟩
    · exact ⟨q1, by show aA 3 < M.1 + L.length; omega⟩
  · rcases s with ⟨k3, q1, q2⟩ | ⟨q1, q2, q3, q4⟩
    · have e0 : k3 ≠ k0 := ne q2 l0 (fun e => nomatch e)
      have e1 : k3 ≠ k1 := ne q2 l1 (fun e => nomatch e)
      have e2 : k3 ≠ k2 := ne q2 l2 (fun e => nomatch e)
      exact ⟨by omega, by omega, by omega⟩
    · exact ⟨by omega, by omega, by omega⟩
  · rcases s with ⟨k3, q1, q2⟩ | ⟨q1, q2, q3, q4⟩
    · cases hq : Λ.2 (aA 3) with
      | none => rfl
      | some q => have := (h.2.2.2.2.2.2.2.2.2.2.1 _ q hq).2; omega
    · exact q3
  · rcases s with ⟨k3, q1, q2⟩ | ⟨q1, q2, q3, q4⟩
    · rw [q1, at' _ (lt q2), q2]
    · rw [od _ q2 (by omega) (by omega)]
      exact q4
  · intro f v hv
    obtain ⟨k, q1, q2⟩ := w f v hv
    have e0 : k ≠ k0 := ne q2 l0 (fun e => nomatch e)
    have e1 : k ≠ k1 := ne q2 l1 (fun e => nomatch e)
    have e2 : k ≠ k2 := ne q2 l2 (fun e => nomatch e)
    refine ⟨⟨by omega, by show aA f < M.1 + L.length; have := lt q2; omega⟩, ⟨by omega, by omega, by omega⟩, ?_⟩
    rw [q1, at' _ (lt q2), q2]
