/-! ALL OF IT, 3: cut, cost, share, score -/
theorem mj_callM {α β : Type} (M : mv_M) (x : α) (f : α → mv_M → Option β) : mj_call (Option.map (fun q => (q, M)) (some x)) f = f x M := rfl
theorem ca_cut {B N : Nat} (hN : 4000 ≤ N) {M : mv_M} (h : G1 B M) (a : Int32) : RC B M (fun M => jf_PL_cut N M B a) (fun M => jf_PM_cut N M (B + 19) a) := by
  obtain ⟨ta, py, sc, tk, pm, X, Λ, ρ, τ, hg, hr⟩ := h
  rcases op_cut (N := N) (by omega) hr.1 a with ⟨o1, o2⟩ | ⟨o1, r, ta', pm', o2, o3, o4, o5⟩
  · refine rc_end (r := -1) (pm' := pm) (M1 := M) ?_ hg ?_ hr (Nat.le_add_right _ _) (Nat.le_add_right _ _)
    · show jf_PL_cut N M B a = _
      unfold jf_PL_cut jb_PL_cut_0
      rw [lf_Ta_isColumn, o1]
      rfl
    · show jf_PM_cut N _ (B + 19) a = _
      rw [lf_PM_cut, o2]
      rfl
  · have e1 := lf_Ta_bestCutOf (B + 3) M N ta a
    rw [gm_Ta hg, o2] at e1
    refine rc_end (r := r) (pm' := pm') (M1 := wr_Ta (B + 3) M ta') ?_ (gs_Ta hg ta') ?_ (fr_Ta hr o4 o5) (Nat.le_add_right _ _) (Nat.le_add_right _ _)
    · show jf_PL_cut N M B a = _
      unfold jf_PL_cut jb_PL_cut_0
      rw [lf_Ta_isColumn, o1]
      rw [mj_callM, if_neg (show ¬ (1 : Int32) = 0 by decide), (gm_f hg).2.1, Option.bind_some, Option.bind_some, ob_Ta hg, e1]
      rfl
    · show jf_PM_cut N _ (B + 19) a = _
      rw [lf_PM_cut, o3]
      rfl
theorem ca_cost {B N : Nat} (hN : 4000 ≤ N) {M : mv_M} (h : G1 B M) (a b c : Int32) : RC B M (fun M => jf_PL_cost N M B a b c) (fun M => jf_PM_cost N M (B + 19) a b c) := by
  obtain ⟨ta, py, sc, tk, pm, X, Λ, ρ, τ, hg, hr⟩ := h
  by_cases hb : (0 ≤ a.toInt ∧ a.toInt ≤ 3) ∧ (0 ≤ c.toInt ∧ c.toInt ≤ 1)
  · obtain ⟨q, hq, rfl⟩ := nI_ofR (v := a) (m := 3) hb.1.1 hb.1.2
    obtain ⟨f, ta', pm', g, o2, o3, o4, o5⟩ := op_cost2 (N := N) (by omega) hr.1 (c := q) (by omega) b c hb.2
    have e1 := lf_Ta_costOf (B + 3) M N ta (nI q) b
    rw [gm_Ta hg, o2] at e1
    have e1' : jf_Ta_costOf N M (B + 3) (nI q) b = some (en f, wr_Ta (B + 3) M ta') := e1
    refine rc_end (r := if c = 0 then zL (pP f) else zL (pQ f)) (pm' := pm') (M1 := wr_Ta (B + 3) M ta') ?_ (gs_Ta hg ta') ?_ (fr_Ta hr o4 o5) (Nat.le_add_right _ _) (Nat.le_add_right _ _)
    · show jf_PL_cost N M B (nI q) b c = _
      unfold jf_PL_cost jb_PL_cost_0
      rw [lf_Ta_isColumn, ta_isColumn, bI_t hb.1]
      rw [mj_callM, if_neg (show ¬ (1 : Int32) = 0 by decide), lf_PL_isSide, c_side, bI_t hb.2]
      rw [mj_callM, if_neg (show ¬ (1 : Int32) = 0 by decide), (gm_f hg).2.1, Option.bind_some, Option.bind_some, ob_Ta hg, e1']
      rw [mj_callS, lf_Fr_sideOf, kf_sideOf N g]
      rfl
    · show jf_PM_cost N _ (B + 19) (nI q) b c = _
      rw [lf_PM_cost, o3]
      rfl
  · refine rc_end (r := -1099511627776) (pm' := pm) (M1 := M) ?_ hg ?_ hr (Nat.le_add_right _ _) (Nat.le_add_right _ _)
    · show jf_PL_cost N M B a b c = _
      unfold jf_PL_cost jb_PL_cost_0
      rw [lf_Ta_isColumn, ta_isColumn]
      by_cases h1 : 0 ≤ a.toInt ∧ a.toInt ≤ 3
      · rw [bI_t h1]
        rw [mj_callM, if_neg (show ¬ (1 : Int32) = 0 by decide), lf_PL_isSide, c_side, bI_f (fun w => hb ⟨h1, w⟩)]
        rfl
      · rw [bI_f h1]
        rfl
    · show jf_PM_cost N _ (B + 19) a b c = _
      rw [lf_PM_cost, op_cost_bad N pm a b c hb]
      rfl
theorem ca_score {B N : Nat} (hN : 4000 ≤ N) {M : mv_M} (h : G1 B M) (a c : Int32) : RC B M (fun M => jf_PL_score N M B a c) (fun M => jf_PM_score N M (B + 19) a c) := by
  obtain ⟨ta, py, sc, tk, pm, X, Λ, ρ, τ, hg, hr⟩ := h
  have e0 : (0 : Int32).toInt = 0 := by decide
  have e3 : (3 : Int32).toInt = 3 := by decide
  have k1 : a < 0 ↔ a.toInt < 0 := by rw [i32lt, e0]
  have k2 : (3 : Int32) < a ↔ 3 < a.toInt := by rw [i32lt, e3]
  by_cases hb : (0 ≤ a.toInt ∧ a.toInt ≤ 3) ∧ (0 ≤ c.toInt ∧ c.toInt ≤ 1)
  · have na : ¬ a < 0 := fun w => by have := k1.mp w; omega
    have nb : ¬ (3 : Int32) < a := fun w => by have := k2.mp w; omega
    obtain ⟨q, hq, rfl⟩ := nI_ofR (v := a) (m := 3) hb.1.1 hb.1.2
    obtain ⟨f, pm', g, o2, o3, o4, o5⟩ := op_score (N := N) (by omega) hr.2.2.1 hq c hb.2
    have e1 := lf_Sc_scoreOf (B + 10) M N sc (nI q)
    rw [gm_Sc hg, o2] at e1
    have e1' : jf_Sc_scoreOf N M (B + 10) (nI q) = some (en f, wr_Sc (B + 10) M sc) := e1
    refine rc_end (r := if c = 0 then zL (pP f) else zL (pQ f)) (pm' := pm') (M1 := wr_Sc (B + 10) M sc) ?_ (gs_Sc hg sc) ?_ (fr_Sc hr o4 o5) (Nat.le_add_right _ _) (Nat.le_add_right _ _)
    · show jf_PL_score N M B (nI q) c = _
      unfold jf_PL_score jb_PL_score_0
      rw [if_neg na, if_neg nb, lf_PL_isSide, c_side, bI_t hb.2]
      rw [mj_callM, if_neg (show ¬ (1 : Int32) = 0 by decide), (gm_f hg).2.2.2.1, Option.bind_some, Option.bind_some, ob_Sc hg, e1']
      rw [mj_callS, lf_Fr_sideOf, kf_sideOf N g]
      rfl
    · show jf_PM_score N _ (B + 19) (nI q) c = _
      rw [lf_PM_score, o3]
      rfl
  · refine rc_end (r := -1099511627776) (pm' := pm) (M1 := M) ?_ hg ?_ hr (Nat.le_add_right _ _) (Nat.le_add_right _ _)
    · show jf_PL_score N M B a c = _
      unfold jf_PL_score jb_PL_score_0 jb_PL_score_16
      by_cases h1 : a < 0
      · rw [if_pos h1]
      · rw [if_neg h1]
        by_cases h2 : (3 : Int32) < a
        · rw [if_pos h2]
        · rw [if_neg h2, lf_PL_isSide, c_side, bI_f (fun w => hb ⟨⟨by have := mt k1.mpr h1; omega, by have := mt k2.mpr h2; omega⟩, w⟩)]
          rfl
    · show jf_PM_score N _ (B + 19) a c = _
      rw [lf_PM_score, op_score_bad N pm a c hb]
      rfl
theorem ca_share {B N : Nat} (hN : 4000 ≤ N) {M : mv_M} (h : G1 B M) (a c : Int32) : RC B M (fun M => jf_PL_share N M B a c) (fun M => jf_PM_share N M (B + 19) a c) := by
  obtain ⟨ta, py, sc, tk, pm, X, Λ, ρ, τ, hg, hr⟩ := h
  obtain ⟨n, hn8, hn, _⟩ := id hr.2.1
  have e0 : (0 : Int32).toInt = 0 := by decide
  have k1 : a < 0 ↔ a.toInt < 0 := by rw [i32lt, e0]
  have k2 : nI n ≤ a ↔ (n : Int) ≤ a.toInt := by rw [Int32.le_iff_toInt_le, nI_toInt (by omega)]
  have gi : mj_getI M (B + 8) 3 1 = some (nI n) := by
    have := wg_Py_1 (B + 8) M py
    rw [gm_Py hg, hn] at this
    exact this
  by_cases hb : (0 ≤ a.toInt ∧ a.toInt < n) ∧ (0 ≤ c.toInt ∧ c.toInt ≤ 1)
  · have na : ¬ a < 0 := fun w => by have := k1.mp w; omega
    have nb : ¬ nI n ≤ a := fun w => by have := k2.mp w; omega
    obtain ⟨q, hq, rfl⟩ := nI_ofR (v := a) (m := n - 1) hb.1.1 (by omega)
    have hq2 : q < n := by
      have := hb.1.2
      rw [nI_toInt (by omega)] at this
      omega
    obtain ⟨f, pm', g, o2, o3, o4, o5⟩ := op_share (N := N) (by omega) hr.2.1 hn hn8 hq2 c hb.2
    have e1 := lf_Py_shareOf (B + 8) M N py (nI q)
    rw [gm_Py hg, o2] at e1
    have e1' : jf_Py_shareOf N M (B + 8) (nI q) = some (en f, wr_Py (B + 8) M py) := e1
    refine rc_end (r := if c = 0 then zL (pP f) else zL (pQ f)) (pm' := pm') (M1 := wr_Py (B + 8) M py) ?_ (gs_Py hg py) ?_ (fr_Py hr o4 o5) (Nat.le_add_right _ _) (Nat.le_add_right _ _)
    · show jf_PL_share N M B (nI q) c = _
      unfold jf_PL_share jb_PL_share_0
      rw [if_neg na, (gm_f hg).2.2.1, Option.bind_some, Option.bind_some, gi, Option.bind_some, if_neg nb, lf_PL_isSide, c_side, bI_t hb.2]
      rw [mj_callM, if_neg (show ¬ (1 : Int32) = 0 by decide), (gm_f hg).2.2.1, Option.bind_some, Option.bind_some, ob_Py hg, e1']
      rw [mj_callS, lf_Fr_sideOf, kf_sideOf N g]
      rfl
    · show jf_PM_share N _ (B + 19) (nI q) c = _
      rw [lf_PM_share, o3]
      rfl
  · refine rc_end (r := -1099511627776) (pm' := pm) (M1 := M) ?_ hg ?_ hr (Nat.le_add_right _ _) (Nat.le_add_right _ _)
    · show jf_PL_share N M B a c = _
      unfold jf_PL_share jb_PL_share_0 jb_PL_share_22
      by_cases h1 : a < 0
      · rw [if_pos h1]
      · rw [if_neg h1, (gm_f hg).2.2.1, Option.bind_some, Option.bind_some, gi, Option.bind_some]
        by_cases h2 : nI n ≤ a
        · rw [if_pos h2]
        · rw [if_neg h2, lf_PL_isSide, c_side, bI_f (fun w => hb ⟨⟨by have := mt k1.mpr h1; omega, by have := mt k2.mpr h2; omega⟩, w⟩)]
          rfl
    · show jf_PM_share N _ (B + 19) a c = _
      rw [lf_PM_share, op_share_bad N hr.2.1 hn hn8 a c hb]
      rfl
