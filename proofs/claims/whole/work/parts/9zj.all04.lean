/-! ALL OF IT, 4: the calls on the tape that make no object; count -/
section GT
variable {B : Nat} {ta py sc tk pm : kS} {Λ : tQ} {ρ : tR} {τ : tS} {M : mv_M}
theorem ob_Tp {β : Type} (h : GM B ta py sc tk pm Λ ρ τ M) (A : Option β) : mj_ob M (B + 1) 7 A = A := by
  have := to_T (Λ := Λ) (ρ := ρ) (M := M) (τ := τ) (A := A)
  rw [gT_w h.2.2.2.2.2.2.2, h.2.2.2.2.2.2.2.1] at this
  exact this
theorem gm_tok (h : GM B ta py sc tk pm Λ ρ τ M) : t_ok Λ ρ M ∧ Λ.1 = B + 1 ∧ wT Λ ρ M τ = M := ⟨h.2.2.2.2.2.2.2.2.1, h.2.2.2.2.2.2.2.1, gT_w h.2.2.2.2.2.2.2⟩
theorem jf_in (h : GM B ta py sc tk pm Λ ρ τ M) {X : tX} (hc : cSt X ρ τ) (ok : x_ok X) (N : Nat) {i : Nat} (hi : i < x_n X) : jf_Tp_find N M (B + 1) (nI i) = some (some (t_A ρ i 0), M) := by
  obtain ⟨k1, k2, k3⟩ := gm_tok h
  have e := lf_Tp_find k1 N τ (nI i)
  rw [k3, k2, cT_in hc ok N hi] at e
  rw [e]
  show some (some (t_A ρ i 0), wT Λ ρ M τ) = _
  rw [k3]
theorem jf_out (h : GM B ta py sc tk pm Λ ρ τ M) {X : tX} (hc : cSt X ρ τ) (ok : x_ok X) (N : Nat) {v : Int32} (hv : ¬ (0 ≤ v.toInt ∧ v.toInt ≤ (x_n X : Int) - 1)) : jf_Tp_find N M (B + 1) v = some (none, M) := by
  obtain ⟨k1, k2, k3⟩ := gm_tok h
  have e := lf_Tp_find k1 N τ v
  rw [k3, k2, cT_out hc ok N hv] at e
  rw [e]
  show some (none, wT Λ ρ M τ) = _
  rw [k3]
theorem ob_No {β : Type} (h : GM B ta py sc tk pm Λ ρ τ M) {i : Nat} (hi : i < t_n ρ) (A : Option β) : mj_ob M (t_A ρ i 0) 2 A = A := by
  obtain ⟨k1, k2, k3⟩ := gm_tok h
  have := to_N (τ := τ) (A := A) k1 hi
  rw [k3] at this
  exact this
theorem jf_has (h : GM B ta py sc tk pm Λ ρ τ M) {X : tX} (hc : cSt X ρ τ) (ok : x_ok X) (N : Nat) {i : Nat} (hi : i < x_n X) (v : Int32) : jf_No_hasCell N M (t_A ρ i 0) v = some (bI (0 ≤ v.toInt ∧ v.toInt ≤ (x_c X i : Int) - 1), M) := by
  obtain ⟨k1, k2, k3⟩ := gm_tok h
  have e := lf_No_hasCell k1 N τ i v (by rw [hc.1]; exact hi)
  rw [k3, c_has hc ok N hi] at e
  rw [e]
  show some (_, wT Λ ρ M τ) = _
  rw [k3]
end GT
theorem mj_optS {β : Type} (a : Nat) (A : Option β) (f : Nat → Option β) : mj_opt (some a) A f = f a := rfl
theorem mj_optN {β : Type} (A : Option β) (f : Nat → Option β) : mj_opt none A f = A := rfl
/-- the tape's call has gone its way: what both answer -/
theorem rc_T {α : Type} {B : Nat} {M : mv_M} {f g : mv_M → Option (α × mv_M)} {r : α} {ta py sc tk pm pm' : kS} {X : tX} {Λ : tQ} {ρ : tR} {τ τ' : tS} (hg : GM B ta py sc tk pm Λ ρ τ M) (h1 : f M = some (r, wT Λ ρ M τ')) (h2 : ∀ M1, g (wr_PM (B + 19) M1 pm) = some (r, wr_PM (B + 19) M1 pm')) (hr : GR ta py sc tk pm' X ρ τ') : RC B M f g :=
  rc_end (r := r) (pm' := pm') (M1 := wT Λ ρ M τ') h1 (gs_T hg τ') (h2 _) hr (Nat.le_add_right _ _) (Nat.le_add_right _ _)
theorem ca_ways {B N : Nat} (hN : 4000 ≤ N) {M : mv_M} (h : G1 B M) (a b : Int32) : RC B M (fun M => jf_PL_ways N M B a b) (fun M => jf_PM_ways N M (B + 19) a b) := by
  obtain ⟨ta, py, sc, tk, pm, X, Λ, ρ, τ, hg, hr⟩ := h
  obtain ⟨k1, k2, k3⟩ := gm_tok hg
  obtain ⟨r, τ', pm', o1, o2, o3, o4⟩ := op_ways N (by omega) hr.2.2.2.2 a b
  have e := lf_Tp_countWays k1 N τ a b
  rw [k3, k2, o1] at e
  refine rc_T (r := r) (τ' := τ') hg ?_ (fun M1 => ?_) (fr_Tp hr o3 o4)
  · show jf_PL_ways N M B a b = _
    unfold jf_PL_ways jb_PL_ways_0
    rw [(gm_f hg).1, Option.bind_some, Option.bind_some, ob_Tp hg, e]
    rfl
  · show jf_PM_ways N _ (B + 19) a b = _
    rw [lf_PM_ways, o2]
    rfl
theorem ca_parameter {B N : Nat} (hN : 4000 ≤ N) {M : mv_M} (h : G1 B M) (a : Int32) (b : Bool) : RC B M (fun M => jf_PL_parameter N M B a (bb b)) (fun M => jf_PM_parameter N M (B + 19) a (bb b)) := by
  obtain ⟨ta, py, sc, tk, pm, X, Λ, ρ, τ, hg, hr⟩ := h
  have _ := hN
  obtain ⟨k1, k2, k3⟩ := gm_tok hg
  obtain ⟨r, τ', pm', o1, o2, o3, o4⟩ := op_par N hr.2.2.2.2 a b
  have e := lf_Tp_markParameter k1 N τ a (bb b)
  rw [k3, k2, o1] at e
  refine rc_T (r := r) (τ' := τ') hg ?_ (fun M1 => ?_) (fr_Tp hr o3 o4)
  · show jf_PL_parameter N M B a (bb b) = _
    unfold jf_PL_parameter jb_PL_parameter_0
    rw [(gm_f hg).1, Option.bind_some, Option.bind_some, ob_Tp hg, e]
    rfl
  · show jf_PM_parameter N _ (B + 19) a (bb b) = _
    rw [lf_PM_parameter, o2]
    rfl
theorem ca_train {B N : Nat} (hN : 4000 ≤ N) {M : mv_M} (h : G1 B M) (a b : Int32) : RC B M (fun M => jf_PL_train N M B a b) (fun M => jf_PM_train N M (B + 19) a b) := by
  obtain ⟨ta, py, sc, tk, pm, X, Λ, ρ, τ, hg, hr⟩ := h
  obtain ⟨k1, k2, k3⟩ := gm_tok hg
  obtain ⟨r, τ', pm', o1, o2, o3, o4⟩ := op_train N hN hr.2.2.2.2 a b
  have e := lf_Tp_trainSteps k1 N τ a b
  rw [k3, k2, o1] at e
  refine rc_T (r := r) (τ' := τ') hg ?_ (fun M1 => ?_) (fr_Tp hr o3 o4)
  · show jf_PL_train N M B a b = _
    unfold jf_PL_train jb_PL_train_0
    rw [(gm_f hg).1, Option.bind_some, Option.bind_some, ob_Tp hg, e]
    rfl
  · show jf_PM_train N _ (B + 19) a b = _
    rw [lf_PM_train, o2]
    rfl
theorem ca_tell {B N : Nat} (hN : 4000 ≤ N) {M : mv_M} (h : G1 B M) (a b c d : Int32) : RC B M (fun M => jf_PL_tell N M B a b c d) (fun M => jf_PM_tell N M (B + 19) a b c d) := by
  obtain ⟨ta, py, sc, tk, pm, X, Λ, ρ, τ, hg, hr⟩ := h
  obtain ⟨k1, k2, k3⟩ := gm_tok hg
  obtain ⟨r, τ', pm', o1, o2, o3, o4⟩ := op_tell N (by omega) hr.2.2.2.2 a b c d
  refine rc_T (r := r) (τ' := τ') hg ?_ (fun M1 => ?_) (fr_Tp hr o3 o4)
  · show jf_PL_tell N M B a b c d = _
    unfold kq_tell at o1
    have f1 : kf_Fr_of N c.toInt64 d.toInt64 = some (en (fo c.toInt d.toInt)) := by rw [i2l, i2l, kf_of (by omega) (rg_i _) (rg_i _)]
    rw [f1, Option.bind_some] at o1
    have e := lf_Tp_tellCell k1 N τ a b (en (fo c.toInt d.toInt))
    rw [k3, k2, o1] at e
    unfold jf_PL_tell jb_PL_tell_0
    rw [(gm_f hg).1, Option.bind_some, lf_Fr_of, f1, mj_callM, Option.bind_some, ob_Tp hg, e]
    rfl
  · show jf_PM_tell N _ (B + 19) a b c d = _
    rw [lf_PM_tell, o2]
    rfl
theorem ca_rate {B N : Nat} (hN : 4000 ≤ N) {M : mv_M} (h : G1 B M) (a b : Int32) : RC B M (fun M => jf_PL_rate N M B a b) (fun M => jf_PM_rate N M (B + 19) a b) := by
  obtain ⟨ta, py, sc, tk, pm, X, Λ, ρ, τ, hg, hr⟩ := h
  obtain ⟨k1, k2, k3⟩ := gm_tok hg
  obtain ⟨r, τ', pm', o1, o2, o3, o4⟩ := op_rate N (by omega) hr.2.2.2.2 a b
  refine rc_T (r := r) (τ' := τ') hg ?_ (fun M1 => ?_) (fr_Tp hr o3 o4)
  · show jf_PL_rate N M B a b = _
    unfold kq_rate at o1
    unfold jf_PL_rate jb_PL_rate_0
    have f1 : kf_Fr_of N a.toInt64 b.toInt64 = some (en (fo a.toInt b.toInt)) := by rw [i2l, i2l, kf_of (by omega) (rg_i _) (rg_i _)]
    by_cases hb : (0 : Int32) < b
    · rw [if_pos hb, f1, Option.bind_some] at o1
      have p := tp_T_2 (τ := τ) k1 (en (fo a.toInt b.toInt))
      rw [k3, k2] at p
      rw [if_pos hb, (gm_f hg).1, Option.bind_some, lf_Fr_of, f1, mj_callM, Option.bind_some, p, Option.bind_some]
      cases o1
      rfl
    · rw [if_neg hb] at o1
      rw [if_neg hb]
      cases o1
      rw [k3]
  · show jf_PM_rate N _ (B + 19) a b = _
    rw [lf_PM_rate, o2]
    rfl
theorem ca_node {B N : Nat} (hN : 4000 ≤ N) {M : mv_M} (h : G1 B M) (a b : Int32) : RC B M (fun M => jf_PL_node N M B a b) (fun M => jf_PM_node N M (B + 19) a b) := by
  obtain ⟨ta, py, sc, tk, pm, X, Λ, ρ, τ, hg, hr⟩ := h
  obtain ⟨k1, k2, k3⟩ := gm_tok hg
  obtain ⟨r, o1, o2⟩ := op_node N (by omega) hr.2.2.2.2 a b
  obtain ⟨ok, V, fr, pmm, rt, gV, xv, gr, hp, hc, hrr⟩ := id hr.2.2.2.2
  have hn := ok.1
  refine rc_T (r := r) (τ' := τ) hg ?_ (fun M1 => ?_) hr
  · show jf_PL_node N M B a b = _
    unfold kq_node at o1
    unfold jf_PL_node jb_PL_node_0 jb_PL_node_22
    rw [(gm_f hg).1, Option.bind_some, Option.bind_some, ob_Tp hg]
    rcases v_in a (n := x_n X) (by omega) with ⟨i, hi, rfl⟩ | hv
    · have hi' : i < t_n ρ := by rw [hc.1.1]; exact hi
      rw [cT_in hc.1 ok N hi, kk_some, tk_opt_s] at o1
      have e := lf_No_describe k1 N τ i b hi'
      rw [k3, o1] at e
      rw [jf_in hg hc.1 ok N hi, mj_callS, mj_optS, ob_No hg hi', e]
      rfl
    · rw [cT_out hc.1 ok N hv, kk_some, tk_opt_n] at o1
      rw [jf_out hg hc.1 ok N hv, mj_callS, mj_optN]
      cases o1
      rw [k3]
  · show jf_PM_node N _ (B + 19) a b = _
    rw [lf_PM_node, o2]
    rfl
theorem ca_value {B N : Nat} (hN : 4000 ≤ N) {M : mv_M} (h : G1 B M) (a b c : Int32) : RC B M (fun M => jf_PL_value N M B a b c) (fun M => jf_PM_value N M (B + 19) a b c) := by
  obtain ⟨ta, py, sc, tk, pm, X, Λ, ρ, τ, hg, hr⟩ := h
  obtain ⟨k1, k2, k3⟩ := gm_tok hg
  obtain ⟨r, τ', pm', o1, o2, o3, o4⟩ := op_value N hN hr.2.2.2.2 a b c
  obtain ⟨ok, V, fr, pmm, rt, gV, xv, gr, hp, hc, hrr⟩ := id hr.2.2.2.2
  have hn := ok.1
  refine rc_T (r := r) (τ' := τ') hg ?_ (fun M1 => ?_) (fr_Tp hr o3 o4)
  · show jf_PL_value N M B a b c = _
    unfold kq_value at o1
    unfold jf_PL_value jb_PL_value_0 jb_PL_value_31
    rw [(gm_f hg).1, Option.bind_some, Option.bind_some, ob_Tp hg]
    rcases v_in a (n := x_n X) (by omega) with ⟨i, hi, rfl⟩ | hv
    · have hi' : i < t_n ρ := by rw [hc.1.1]; exact hi
      rw [cT_in hc.1 ok N hi, kk_some, tk_opt_s, c_has hc.1 ok N hi, kk_some] at o1
      rw [jf_in hg hc.1 ok N hi, mj_callS, mj_optS, ob_No hg hi', jf_has hg hc.1 ok N hi, mj_callS]
      by_cases h1 : bI (0 ≤ b.toInt ∧ b.toInt ≤ (x_c X i : Int) - 1) = 0
      · rw [if_pos h1] at o1 ⊢
        cases o1
        rw [k3]
      · rw [if_neg h1, c_side, Option.bind_some] at o1
        rw [if_neg h1, lf_PL_isSide, c_side, mj_callM]
        by_cases h2 : bI (0 ≤ c.toInt ∧ c.toInt ≤ 1) = 0
        · rw [if_pos h2] at o1 ⊢
          cases o1
          rw [k3]
        · rw [if_neg h2] at o1 ⊢
          have e := lf_Tp_reckonUpTo k1 N τ (nI i)
          rw [k3, k2] at e
          rw [(gm_f hg).1, Option.bind_some, Option.bind_some, ob_Tp hg, e]
          cases hk : kf_Tp_reckonUpTo N ρ τ (nI i) with
          | none =>
            rw [hk] at o1
            cases o1
          | some q =>
            obtain ⟨u, τ1⟩ := q
            rw [hk, kk_some] at o1
            show Option.bind (mj_getR (wT Λ ρ M τ1) (t_A ρ i 0) 2 9) _ = _
            rw [tg_N_9 k1 hi', Option.bind_some, Option.bind_some, tl_9 k1 hi']
            cases hx : mj_tabL (τ1.2.2.2.2 i 9) (t_len ρ i) b with
            | none =>
              rw [hx] at o1
              cases o1
            | some x =>
              rw [hx, Option.bind_some] at o1
              rw [Option.bind_some, lf_Fr_sideOf]
              cases hy : kf_Fr_sideOf N x c with
              | none =>
                rw [hy] at o1
                cases o1
              | some z =>
                rw [hy, Option.bind_some] at o1
                cases o1
                rfl
    · rw [cT_out hc.1 ok N hv, kk_some, tk_opt_n] at o1
      rw [jf_out hg hc.1 ok N hv, mj_callS, mj_optN]
      cases o1
      rw [k3]
  · show jf_PM_value N _ (B + 19) a b c = _
    rw [lf_PM_value, o2]
    rfl
theorem ca_slope {B N : Nat} (hN : 4000 ≤ N) {M : mv_M} (h : G1 B M) (a d b c : Int32) : RC B M (fun M => jf_PL_slope N M B a d b c) (fun M => jf_PM_slope N M (B + 19) a d b c) := by
  obtain ⟨ta, py, sc, tk, pm, X, Λ, ρ, τ, hg, hr⟩ := h
  obtain ⟨k1, k2, k3⟩ := gm_tok hg
  obtain ⟨r, τ', pm', o1, o2, o3, o4⟩ := op_slope N hN hr.2.2.2.2 a d b c
  obtain ⟨ok, V, fr, pmm, rt, gV, xv, gr, hp, hc, hrr⟩ := id hr.2.2.2.2
  have hn := ok.1
  refine rc_T (r := r) (τ' := τ') hg ?_ (fun M1 => ?_) (fr_Tp hr o3 o4)
  · show jf_PL_slope N M B a d b c = _
    unfold kq_slope at o1
    unfold jf_PL_slope jb_PL_slope_0 jb_PL_slope_52
    rw [(gm_f hg).1, Option.bind_some, Option.bind_some, ob_Tp hg]
    have tail : ∀ (w : Option Nat) , kf_Tp_find N ρ τ d = some (w, τ) → jf_Tp_find N M (B + 1) d = some (w.map (fun j => t_A ρ j 0), M) := fun w hw => by
      have e := lf_Tp_find k1 N τ d
      rw [k3, k2, hw] at e
      rw [e]
      show some (_, wT Λ ρ M τ) = _
      rw [k3]
    rcases v_in a (n := x_n X) (by omega) with ⟨i, hi, rfl⟩ | hv
    · rw [cT_in hc.1 ok N hi, kk_some] at o1
      rw [jf_in hg hc.1 ok N hi, mj_callS, (gm_f hg).1, Option.bind_some, Option.bind_some, ob_Tp hg]
      rcases v_in d (n := x_n X) (by omega) with ⟨j, hj, rfl⟩ | hv2
      · have hj' : j < t_n ρ := by rw [hc.1.1]; exact hj
        rw [cT_in hc.1 ok N hj, kk_some, tk_opt_s, tk_opt_s] at o1
        rw [jf_in hg hc.1 ok N hj, mj_callS, mj_optS, mj_optS]
        by_cases h0 : nI i < nI j
        · rw [if_pos h0] at o1 ⊢
          cases o1
          rw [k3]
        · rw [if_neg h0, c_has hc.1 ok N hj, kk_some] at o1
          rw [if_neg h0, ob_No hg hj', jf_has hg hc.1 ok N hj, mj_callS]
          by_cases h1 : bI (0 ≤ b.toInt ∧ b.toInt ≤ (x_c X j : Int) - 1) = 0
          · rw [if_pos h1] at o1 ⊢
            cases o1
            rw [k3]
          · rw [if_neg h1, c_side, Option.bind_some] at o1
            rw [if_neg h1, lf_PL_isSide, c_side, mj_callM]
            by_cases h2 : bI (0 ≤ c.toInt ∧ c.toInt ≤ 1) = 0
            · rw [if_pos h2] at o1 ⊢
              cases o1
              rw [k3]
            · rw [if_neg h2] at o1 ⊢
              have e := lf_Tp_reckonUpTo k1 N τ (nI i)
              rw [k3, k2] at e
              rw [(gm_f hg).1, Option.bind_some, Option.bind_some, ob_Tp hg, e]
              cases hk : kf_Tp_reckonUpTo N ρ τ (nI i) with
              | none =>
                rw [hk] at o1
                cases o1
              | some q =>
                obtain ⟨u, τ1⟩ := q
                rw [hk, kk_some] at o1
                have hg1 := gs_T hg τ1
                show Option.bind (mj_getR (wT Λ ρ M τ1) B 0 0) _ = _
                have e2 := lf_Tp_sumSlopes k1 N τ1 (nI i) (nI j)
                rw [k2] at e2
                rw [(gm_f hg1).1, Option.bind_some, Option.bind_some, ob_Tp hg1, e2]
                cases hk2 : kf_Tp_sumSlopes N ρ τ1 (nI i) (nI j) with
                | none =>
                  rw [hk2] at o1
                  cases o1
                | some q2 =>
                  obtain ⟨u2, τ2⟩ := q2
                  rw [hk2, kk_some] at o1
                  show Option.bind (mj_getR (wT Λ ρ M τ2) (t_A ρ j 0) 2 10) _ = _
                  rw [tg_N_10 k1 hj', Option.bind_some, Option.bind_some, tl_10 k1 hj']
                  cases hx : mj_tabL (τ2.2.2.2.2 j 10) (t_len ρ j) b with
                  | none =>
                    rw [hx] at o1
                    cases o1
                  | some x =>
                    rw [hx, Option.bind_some] at o1
                    rw [Option.bind_some, lf_Fr_sideOf]
                    cases hy : kf_Fr_sideOf N x c with
                    | none =>
                      rw [hy] at o1
                      cases o1
                    | some z =>
                      rw [hy, Option.bind_some] at o1
                      cases o1
                      rfl
      · rw [cT_out hc.1 ok N hv2, kk_some, tk_opt_s, tk_opt_n] at o1
        rw [jf_out hg hc.1 ok N hv2, mj_callS, mj_optS, mj_optN]
        cases o1
        rw [k3]
    · rw [cT_out hc.1 ok N hv, kk_some] at o1
      rw [jf_out hg hc.1 ok N hv, mj_callS, (gm_f hg).1, Option.bind_some, Option.bind_some, ob_Tp hg]
      rcases v_in d (n := x_n X) (by omega) with ⟨j, hj, rfl⟩ | hv2
      · rw [cT_in hc.1 ok N hj, kk_some, tk_opt_n] at o1
        rw [jf_in hg hc.1 ok N hj, mj_callS, mj_optN]
        cases o1
        rw [k3]
      · rw [cT_out hc.1 ok N hv2, kk_some, tk_opt_n] at o1
        rw [jf_out hg hc.1 ok N hv2, mj_callS, mj_optN]
        cases o1
        rw [k3]
  · show jf_PM_slope N _ (B + 19) a d b c = _
    rw [lf_PM_slope, o2]
    rfl
theorem ca_count {B N : Nat} (hN : 4000 ≤ N) {M : mv_M} (h : G1 B M) (a : Int32) : RC B M (fun M => jf_PL_count N M B a) (fun M => jf_PM_count N M (B + 19) a) := by
  obtain ⟨ta, py, sc, tk, pm, X, Λ, ρ, τ, hg, hr⟩ := h
  obtain ⟨k1, k2, k3⟩ := gm_tok hg
  obtain ⟨ok, V, fr, pmm, rt, gV, xv, gr, hp, hc, hrr⟩ := id hr.2.2.2.2
  obtain ⟨z, z1, z2⟩ := op_cntp N (by omega) hr.2.2.2.2
  obtain ⟨_, _, _, ⟨_, t4, _⟩, ⟨_, p20, _⟩, _⟩ := id hr.1
  obtain ⟨_, _, y1, y26, _⟩ := id hr.2.1
  obtain ⟨_, _, _, ⟨_, s2, _⟩, ⟨_, p28, _⟩⟩ := id hr.2.2.1
  obtain ⟨_, _, _, _, _, _, ⟨_, _, q5, q6, _⟩, ⟨_, _, p31, p33, _⟩, _⟩ := id hr.2.2.2.1
  have fin : ∀ r, jf_PL_count N M B a = some (r, M) → kf_PM_count N pm a = some (r, pm) → RC B M (fun M => jf_PL_count N M B a) (fun M => jf_PM_count N M (B + 19) a) := fun r w1 w2 => by
    refine rc_end (r := r) (pm' := pm) (M1 := M) w1 hg ?_ hr (Nat.le_add_right _ _) (Nat.le_add_right _ _)
    show jf_PM_count N _ (B + 19) a = _
    rw [lf_PM_count, w2]
    rfl
  unfold jf_PL_count jb_PL_count_0 kf_PM_count kb_PM_count_0 at fin
  unfold jf_PL_count jb_PL_count_0
  have g0 : mj_getI M (B + 1) 7 1 = some (τ.1 1) := by
    have := tg_T_1 (Λ := Λ) (ρ := ρ) (M := M) (τ := τ)
    rw [k3, k2] at this
    exact this
  have g1 : mj_getI M (B + 3) 6 4 = some (ta.1 4) := by
    have := wg_Ta_4 (B + 3) M ta
    rw [gm_Ta hg] at this
    exact this
  have g2 : mj_getI M (B + 8) 3 1 = some (py.1 1) := by
    have := wg_Py_1 (B + 8) M py
    rw [gm_Py hg] at this
    exact this
  have g3 : mj_getI M (B + 10) 4 2 = some (sc.1 2) := by
    have := wg_Sc_2 (B + 10) M sc
    rw [gm_Sc hg] at this
    exact this
  have g4 : mj_getI M (B + 13) 8 5 = some (tk.1 5) := by
    have := wg_Tk_5 (B + 13) M tk
    rw [gm_Tk hg] at this
    exact this
  have g5 : mj_getI M (B + 13) 8 6 = some (tk.1 6) := by
    have := wg_Tk_6 (B + 13) M tk
    rw [gm_Tk hg] at this
    exact this
  have e6 := lf_Tp_countParameters k1 N τ
  rw [k3, k2, z1] at e6
  obtain ⟨m1, m2, m3', m4, m5⟩ := gm_f hg
  by_cases c0 : a = 0
  · exact fin (nI (x_n X)) (by rw [if_pos c0, m1, Option.bind_some, Option.bind_some, g0, Option.bind_some, hc.1.2.1]) (by rw [if_pos c0, hrr.1.1])
  by_cases c1 : a = 1
  · exact fin (ta.1 4) (by rw [if_neg c0, if_pos c1, m2, Option.bind_some, Option.bind_some, g1, Option.bind_some]) (by rw [if_neg c0, if_pos c1, p20, t4])
  by_cases c2 : a = 2
  · exact fin (py.1 1) (by rw [if_neg c0, if_neg c1, if_pos c2, m3', Option.bind_some, Option.bind_some, g2, Option.bind_some]) (by rw [if_neg c0, if_neg c1, if_pos c2, y26, y1])
  by_cases c3 : a = 3
  · exact fin (sc.1 2) (by rw [if_neg c0, if_neg c1, if_neg c2, if_pos c3, m4, Option.bind_some, Option.bind_some, g3, Option.bind_some]) (by rw [if_neg c0, if_neg c1, if_neg c2, if_pos c3, p28, s2])
  by_cases c4 : a = 4
  · exact fin (tk.1 5) (by rw [if_neg c0, if_neg c1, if_neg c2, if_neg c3, if_pos c4, m5, Option.bind_some, Option.bind_some, g4, Option.bind_some]) (by rw [if_neg c0, if_neg c1, if_neg c2, if_neg c3, if_pos c4, p31, q5])
  by_cases c5 : a = 5
  · exact fin (tk.1 6) (by rw [if_neg c0, if_neg c1, if_neg c2, if_neg c3, if_neg c4, if_pos c5, m5, Option.bind_some, Option.bind_some, g5, Option.bind_some]) (by rw [if_neg c0, if_neg c1, if_neg c2, if_neg c3, if_neg c4, if_pos c5, p33, q6])
  by_cases c6 : a = 6
  · exact fin z (by
      rw [if_neg c0, if_neg c1, if_neg c2, if_neg c3, if_neg c4, if_neg c5, if_pos c6, m1, Option.bind_some, Option.bind_some, ob_Tp hg, e6]
      show some (z, wT Λ ρ M τ) = _
      rw [k3]) (by rw [if_neg c0, if_neg c1, if_neg c2, if_neg c3, if_neg c4, if_neg c5, if_pos c6, z2])
  · exact fin (-1) (by rw [if_neg c0, if_neg c1, if_neg c2, if_neg c3, if_neg c4, if_neg c5, if_neg c6]) (by rw [if_neg c0, if_neg c1, if_neg c2, if_neg c3, if_neg c4, if_neg c5, if_neg c6])
