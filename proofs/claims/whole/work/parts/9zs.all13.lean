/-! ALL OF IT, 13: the call act, all of it -/
/-- where the new shape of an act lies -/
def shAt (M : mv_M) (sa z : Nat) (P : Nat → Nat) (sP : Nat) (sA : Nat → Nat) (s : Nat) (L0 : List va_E) : Prop := (L0 = [shL z P] ∧ s = M.1) ∨ (L0 = [] ∧ s = sa ∧ z = sP ∧ P = sA)
theorem shAt_c {M : mv_M} {sa z sP s : Nat} {P sA : Nat → Nat} {L0 : List va_E} (h : shAt M sa z P sP sA s L0) (ha : sa < M.1) (hs : M.2.2 sa = some (shL sP sA)) : (∀ n R, mj_getI (nx M n (L0 ++ R)) s 5 4 = some (nI (c3 P))) ∧ (∀ n R, (nx M n (L0 ++ R)).2.2 s = some (shL z P)) ∧ L0.length ≤ 1 := by
  have e : ∀ n R, (nx M n (L0 ++ R)).2.2 s = some (shL z P) := fun n R => by
    rcases h with ⟨rfl, rfl⟩ | ⟨rfl, rfl, rfl, rfl⟩
    · exact nx_at M n ([shL z P] ++ R) (k := 0) (by show 0 < R.length + 1; omega)
    · exact old_sh ha hs n _
  refine ⟨fun n R => mj_getI_of (e n R) rfl, e, ?_⟩
  rcases h with ⟨rfl, _⟩ | ⟨rfl, _⟩
  · exact Nat.le_refl _
  · exact Nat.zero_le _
theorem gm_node {B : Nat} {ta py sc tk pm : kS} {Λ : tQ} {ρ : tR} {τ : tS} {M : mv_M} (h : GM B ta py sc tk pm Λ ρ τ M) {i : Nat} (hi : i < t_n ρ) : t_A ρ i 0 < M.1 ∧ M.2.2 (t_A ρ i 0) = some (.inr (2, t_node ρ τ i)) := by
  obtain ⟨e1, ⟨k1, k2, k3, k4, k5, k6⟩, e3, e4, e5, e6⟩ := h.2.2.2.2.2.2.2
  obtain ⟨q1, q2⟩ := k1 i hi 0 (by omega)
  refine ⟨(e4 _ _ q1).2, ?_⟩
  rw [← e3]
  show (if t_A ρ i 0 = Λ.1 then _ else match Λ.2 (t_A ρ i 0) with | some q => some (t_cell ρ τ q) | none => M.2.2 (t_A ρ i 0)) = _
  rw [if_neg q2, q1]
  rfl
theorem g_actA {B : Nat} {ta py sc tk pm : kS} {Λ : tQ} {ρ : tR} {τ : tS} {M : mv_M} (h : GM B ta py sc tk pm Λ ρ τ M) {X : tX} (ok : x_ok X) {V : tF} {fr : Nat} {pmm : Nat → Bool} {rt : Option Rat} (xv : xV X V) (hc : cTp X V fr pmm rt ρ τ) (pmF : pmm (x_n X) = false) {o a b z s : Nat} {P : Nat → Nat} {L0 : List va_E} (h5 : 5 ≤ o) (h16 : o < 16) (ha : a < x_n X) (hs : shAt M (t_A ρ a 3) z P (x_s X a) (x_P X a) s L0) (c64 : c3 P ≤ 64) (m : Nat) :
    ∃ Λ' ρ' τ', GM B ta py sc tk pm Λ' ρ' τ' (nx (apM B ρ τ M (M.1 + L0.length)) m (L0 ++ [.inr (2, ndA s o a b (t_A ρ a 0) .null (M.1 + (L0.length + 1)) .null (w_t o b (x_s X a) (x_P X a)) (M.1 + (L0.length + 2)) (M.1 + (L0.length + 3))), vwL (w_1 o b (x_s X a) (x_P X a)), arz (c3 P), arz (c3 P)])) ∧ cTp (xE X o a b z P) (VE X V o a b z P) fr pmm rt ρ' τ' := by
  have tn : t_n ρ = x_n X := hc.1.1
  obtain ⟨aA, haA⟩ : ∃ aA : Nat → Nat, aA = fun c => if c = 0 then M.1 + L0.length else if c = 1 then M.1 + (L0.length + 2) else if c = 2 then M.1 + (L0.length + 3) else if c = 3 then s else M.1 + (L0.length + 1) := ⟨_, rfl⟩
  obtain ⟨hH, hhH⟩ : ∃ hH : Nat → Int32, hH = fun f => if f = 0 then nI z else if f = 1 then nI (P 0) else if f = 2 then nI (P 1) else if f = 3 then nI (P 2) else nI (c3 P) := ⟨_, rfl⟩
  obtain ⟨iN, hiN⟩ : ∃ iN : Nat → Int32, iN = fun f => if f = 1 then nI o else if f = 2 then nI a else if f = 3 then nI b else if f = 8 then nI (w_t o b (x_s X a) (x_P X a)) else 0 := ⟨_, rfl⟩
  obtain ⟨rR, hrR⟩ : ∃ rR : Nat → Option Nat, rR = fun f => if f = 4 then some a else none := ⟨_, rfl⟩
  obtain ⟨wW, hwW⟩ : ∃ wW : Nat → Option (Nat → Int32), wW = fun f => if f = 6 then some (fun c => nI (w_1 o b (x_s X a) (x_P X a) c)) else none := ⟨_, rfl⟩
  have h4 : hH 4 = nI (c3 P) := by rw [hhH]; rfl
  have at3 := gm_sh h hc.1 ha
  obtain ⟨_, se, _⟩ := shAt_c hs at3.1.2 at3.2.2
  have nd : t_node (rE ρ rR hH wW aA) (tE (t_n ρ) τ iN (fun _ _ => 0)) (t_n ρ) = ndA s o a b (t_A ρ a 0) .null (M.1 + (L0.length + 1)) .null (w_t o b (x_s X a) (x_P X a)) (M.1 + (L0.length + 2)) (M.1 + (L0.length + 3)) := by
    have hA : ∀ c, t_A (rE ρ rR hH wW aA) (t_n ρ) c = aA c := fun c => if_pos rfl
    have hR' : ∀ f, t_R (rE ρ rR hH wW aA) (t_n ρ) f = rR f := fun f => if_pos rfl
    have hW : ∀ f, t_W (rE ρ rR hH wW aA) (t_n ρ) f = wW f := fun f => if_pos rfl
    have hI : (tE (t_n ρ) τ iN (fun _ _ => 0)).2.2.1 (t_n ρ) = iN := if_pos rfl
    have hQ : (tE (t_n ρ) τ iN (fun _ _ => 0)).2.2.2.1 (t_n ρ) = fun _ => 0 := if_pos rfl
    have r4 : rR 4 = some a := by rw [hrR]; rfl
    have r5 : rR 5 = none := by rw [hrR]; rfl
    have aa : t_A (rE ρ rR hH wW aA) a 0 = t_A ρ a 0 := if_neg (by rw [tn]; omega)
    unfold t_node
    rw [hA 3, hR' 4, hR' 5, hW 6, hW 7, hA 6, hA 7, hA 1, hA 2, hI, hQ, r4, r5]
    show [Value.ref (aA 3), _, _, _, Value.ref (t_A (rE ρ rR hH wW aA) a 0), _, _, _, _, _, _, _, _] = _
    rw [aa, hwW, haA, hiN]
    rfl
  have gm := g_fin h (rR := rR) (hH := hH) (wW := wW) (aA := aA) (iN := iN) (vN := fun _ _ => 0) (fun f j w => by
      have w' : (if f = 4 then some a else none) = some j := by rw [hrR] at w; exact w
      by_cases e : f = 4
      · rw [if_pos e] at w'
        cases w'
        rw [tn]
        exact ha
      · rw [if_neg e] at w'
        cases w') (m := m) (L := L0 ++ [.inr (2, ndA s o a b (t_A ρ a 0) .null (M.1 + (L0.length + 1)) .null (w_t o b (x_s X a) (x_P X a)) (M.1 + (L0.length + 2)) (M.1 + (L0.length + 3))), vwL (w_1 o b (x_s X a) (x_P X a)), arz (c3 P), arz (c3 P)]) (k0 := L0.length) (k1 := L0.length + 2) (k2 := L0.length + 3) (by rw [haA]; rfl) (by rw [haA]; rfl) (by rw [haA]; rfl) (by omega) (by rw [nd]; exact apAt L0 _ 0) (by rw [h4, nI_clamp (by omega)]; exact apAt L0 _ 2) (by rw [h4, nI_clamp (by omega)]; exact apAt L0 _ 3) (by
      rw [haA, hhH]
      rcases hs with ⟨rfl, rfl⟩ | ⟨rfl, rfl, rfl, rfl⟩
      · exact Or.inl ⟨0, rfl, rfl⟩
      · exact Or.inr ⟨at3.1.1, at3.1.2, at3.2.1, at3.2.2⟩) (fun f v w => by
      have w' : (if f = 6 then some (fun c => nI (w_1 o b (x_s X a) (x_P X a) c)) else none) = some v := by rw [hwW] at w; exact w
      by_cases e : f = 6
      · rw [if_pos e] at w'
        cases w'
        refine ⟨L0.length + 1, by rw [e, haA]; rfl, apAt L0 _ 1⟩
      · rw [if_neg e] at w'
        cases w')
  have ct := cTp_new (aA := aA) ok xv hc (o := o) (a := a) (b := b) (z := z) (P := P) (by omega) (fun _ => ha) (fun w => absurd w (by omega)) pmF (rR := rR) (hH := hH) (wW := wW) (iN := iN) (vN := fun _ _ => 0) (by rw [hhH]; exact ⟨rfl, rfl, rfl, rfl, rfl⟩) (by
      rw [hiN]
      exact ⟨(if_neg (by omega)).symm, (if_neg (by omega)).symm, (if_neg (by omega)).symm⟩) (by rw [hiN]; rfl) (fun w => absurd w (by omega)) (fun _ => by rw [hrR, hwW, hiN]; exact ⟨rfl, rfl, rfl⟩) (fun w => absurd w (by omega)) (fun _ => by rw [hrR, hwW]; exact ⟨rfl, rfl⟩) (fun w => absurd w (by omega))
  rw [← tn] at ct
  exact ⟨_, _, _, gm, ct⟩
theorem g_actB {B : Nat} {ta py sc tk pm : kS} {Λ : tQ} {ρ : tR} {τ : tS} {M : mv_M} (h : GM B ta py sc tk pm Λ ρ τ M) {X : tX} (ok : x_ok X) {V : tF} {fr : Nat} {pmm : Nat → Bool} {rt : Option Rat} (xv : xV X V) (hc : cTp X V fr pmm rt ρ τ) (pmF : pmm (x_n X) = false) {o a b z s : Nat} {P : Nat → Nat} {L0 : List va_E} (h5 : o < 5) (ha : a < x_n X) (hbn : b < x_n X) (hs : shAt M (t_A ρ a 3) z P (x_s X a) (x_P X a) s L0) (c64 : c3 P ≤ 64) (m : Nat) :
    ∃ Λ' ρ' τ', GM B ta py sc tk pm Λ' ρ' τ' (nx (apM B ρ τ M (M.1 + L0.length)) m (L0 ++ [.inr (2, ndA s o a b (t_A ρ a 0) (.ref (t_A ρ b 0)) (M.1 + (L0.length + 1)) (.ref (M.1 + (L0.length + 2))) (w_t o b (x_s X a) (x_P X a)) (M.1 + (L0.length + 3)) (M.1 + (L0.length + 4))), vwL (w_1 o b (x_s X a) (x_P X a)), vwL (w_2 o (x_P X b)), arz (c3 P), arz (c3 P)])) ∧ cTp (xE X o a b z P) (VE X V o a b z P) fr pmm rt ρ' τ' := by
  have tn : t_n ρ = x_n X := hc.1.1
  obtain ⟨aA, haA⟩ : ∃ aA : Nat → Nat, aA = fun c => if c = 0 then M.1 + L0.length else if c = 1 then M.1 + (L0.length + 3) else if c = 2 then M.1 + (L0.length + 4) else if c = 3 then s else if c = 6 then M.1 + (L0.length + 1) else M.1 + (L0.length + 2) := ⟨_, rfl⟩
  obtain ⟨hH, hhH⟩ : ∃ hH : Nat → Int32, hH = fun f => if f = 0 then nI z else if f = 1 then nI (P 0) else if f = 2 then nI (P 1) else if f = 3 then nI (P 2) else nI (c3 P) := ⟨_, rfl⟩
  obtain ⟨iN, hiN⟩ : ∃ iN : Nat → Int32, iN = fun f => if f = 1 then nI o else if f = 2 then nI a else if f = 3 then nI b else if f = 8 then nI (w_t o b (x_s X a) (x_P X a)) else 0 := ⟨_, rfl⟩
  obtain ⟨rR, hrR⟩ : ∃ rR : Nat → Option Nat, rR = fun f => if f = 4 then some a else if f = 5 then some b else none := ⟨_, rfl⟩
  obtain ⟨wW, hwW⟩ : ∃ wW : Nat → Option (Nat → Int32), wW = fun f => if f = 6 then some (fun c => nI (w_1 o b (x_s X a) (x_P X a) c)) else if f = 7 then some (fun c => nI (w_2 o (x_P X b) c)) else none := ⟨_, rfl⟩
  have h4 : hH 4 = nI (c3 P) := by rw [hhH]; rfl
  have at3 := gm_sh h hc.1 ha
  obtain ⟨_, se, _⟩ := shAt_c hs at3.1.2 at3.2.2
  have nd : t_node (rE ρ rR hH wW aA) (tE (t_n ρ) τ iN (fun _ _ => 0)) (t_n ρ) = ndA s o a b (t_A ρ a 0) (.ref (t_A ρ b 0)) (M.1 + (L0.length + 1)) (.ref (M.1 + (L0.length + 2))) (w_t o b (x_s X a) (x_P X a)) (M.1 + (L0.length + 3)) (M.1 + (L0.length + 4)) := by
    have hA : ∀ c, t_A (rE ρ rR hH wW aA) (t_n ρ) c = aA c := fun c => if_pos rfl
    have hR' : ∀ f, t_R (rE ρ rR hH wW aA) (t_n ρ) f = rR f := fun f => if_pos rfl
    have hW : ∀ f, t_W (rE ρ rR hH wW aA) (t_n ρ) f = wW f := fun f => if_pos rfl
    have hI : (tE (t_n ρ) τ iN (fun _ _ => 0)).2.2.1 (t_n ρ) = iN := if_pos rfl
    have hQ : (tE (t_n ρ) τ iN (fun _ _ => 0)).2.2.2.1 (t_n ρ) = fun _ => 0 := if_pos rfl
    have r4 : rR 4 = some a := by rw [hrR]; rfl
    have r5 : rR 5 = some b := by rw [hrR]; rfl
    have aa : t_A (rE ρ rR hH wW aA) a 0 = t_A ρ a 0 := if_neg (by rw [tn]; omega)
    have ab : t_A (rE ρ rR hH wW aA) b 0 = t_A ρ b 0 := if_neg (by rw [tn]; omega)
    unfold t_node
    rw [hA 3, hR' 4, hR' 5, hW 6, hW 7, hA 6, hA 7, hA 1, hA 2, hI, hQ, r4, r5]
    show [Value.ref (aA 3), _, _, _, Value.ref (t_A (rE ρ rR hH wW aA) a 0), Value.ref (t_A (rE ρ rR hH wW aA) b 0), _, _, _, _, _, _, _] = _
    rw [aa, ab, hwW, haA, hiN]
    rfl
  have gm := g_fin h (rR := rR) (hH := hH) (wW := wW) (aA := aA) (iN := iN) (vN := fun _ _ => 0) (fun f j w => by
      have w' : (if f = 4 then some a else if f = 5 then some b else none) = some j := by rw [hrR] at w; exact w
      by_cases e : f = 4
      · rw [if_pos e] at w'
        cases w'
        rw [tn]
        exact ha
      · rw [if_neg e] at w'
        by_cases e2 : f = 5
        · rw [if_pos e2] at w'
          cases w'
          rw [tn]
          exact hbn
        · rw [if_neg e2] at w'
          cases w') (m := m) (L := L0 ++ [.inr (2, ndA s o a b (t_A ρ a 0) (.ref (t_A ρ b 0)) (M.1 + (L0.length + 1)) (.ref (M.1 + (L0.length + 2))) (w_t o b (x_s X a) (x_P X a)) (M.1 + (L0.length + 3)) (M.1 + (L0.length + 4))), vwL (w_1 o b (x_s X a) (x_P X a)), vwL (w_2 o (x_P X b)), arz (c3 P), arz (c3 P)]) (k0 := L0.length) (k1 := L0.length + 3) (k2 := L0.length + 4) (by rw [haA]; rfl) (by rw [haA]; rfl) (by rw [haA]; rfl) (by omega) (by rw [nd]; exact apAt L0 _ 0) (by rw [h4, nI_clamp (by omega)]; exact apAt L0 _ 3) (by rw [h4, nI_clamp (by omega)]; exact apAt L0 _ 4) (by
      rw [haA, hhH]
      rcases hs with ⟨rfl, rfl⟩ | ⟨rfl, rfl, rfl, rfl⟩
      · exact Or.inl ⟨0, rfl, rfl⟩
      · exact Or.inr ⟨at3.1.1, at3.1.2, at3.2.1, at3.2.2⟩) (fun f v w => by
      have w' : (if f = 6 then some (fun c => nI (w_1 o b (x_s X a) (x_P X a) c)) else if f = 7 then some (fun c => nI (w_2 o (x_P X b) c)) else none) = some v := by rw [hwW] at w; exact w
      by_cases e : f = 6
      · rw [if_pos e] at w'
        cases w'
        refine ⟨L0.length + 1, by rw [e, haA]; rfl, apAt L0 _ 1⟩
      · rw [if_neg e] at w'
        by_cases e2 : f = 7
        · rw [if_pos e2] at w'
          cases w'
          refine ⟨L0.length + 2, by rw [e2, haA]; rfl, apAt L0 _ 2⟩
        · rw [if_neg e2] at w'
          cases w')
  have ct := cTp_new (aA := aA) ok xv hc (o := o) (a := a) (b := b) (z := z) (P := P) (by omega) (fun _ => ha) (fun _ => hbn) pmF (rR := rR) (hH := hH) (wW := wW) (iN := iN) (vN := fun _ _ => 0) (by rw [hhH]; exact ⟨rfl, rfl, rfl, rfl, rfl⟩) (by
      rw [hiN]
      exact ⟨(if_neg (by omega)).symm, (if_neg (by omega)).symm, (if_neg (by omega)).symm⟩) (by rw [hiN]; rfl) (fun w => absurd w (by omega)) (fun _ => by rw [hrR, hwW, hiN]; exact ⟨rfl, rfl, rfl⟩) (fun _ => by rw [hrR, hwW]; exact ⟨rfl, rfl⟩) (fun w => absurd w (by omega)) (fun w => absurd w (by omega))
  rw [← tn] at ct
  exact ⟨_, _, _, gm, ct⟩
