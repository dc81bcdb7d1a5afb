/-! THE TAPE, 16: the class's tape against the reference's; the calls node, value, slope -/
def cTp (X : tX) (V : tF) (fr : Nat) (pm : Nat → Bool) (rt : Option Rat) (ρ : tR) (τ : tS) : Prop := cSt X ρ τ ∧ fr ≤ x_n X ∧ τ.1 3 = nI fr ∧ cV X V fr τ ∧ (∀ j, j < x_n X → τ.2.2.1 j 11 = bI (pm j = true)) ∧ τ.2.1 2 = en rt
def rTp (X : tX) (V : tF) (pm : Nat → Bool) (rt : Option Rat) (σ : kS) : Prop := rSt X σ ∧ (∀ j, j < x_n X → x_o X j = 16 → vR X V σ j) ∧ (∀ j, j < 50 → σ.2.2.1 8 j = bI (pm j = true)) ∧ σ.2.1 18 = zL (pP rt) ∧ σ.2.1 19 = zL (pQ rt)
def R_Tp (X : tX) (ρ : tR) (τ : tS) (σ : kS) : Prop := x_ok X ∧ ∃ (V : tF) (fr : Nat) (pm : Nat → Bool) (rt : Option Rat), gF V ∧ xV X V ∧ fG rt ∧ (∀ j, pm j = true → j < x_n X ∧ x_o X j = 16) ∧ cTp X V fr pm rt ρ τ ∧ rTp X V pm rt σ
abbrev fTp (σ s : kS) : Prop := kfr [2, 11] [0, 1, 15, 16, 18, 19] [3, 4, 5, 6, 7, 8, 12] [9, 10, 13, 14, 17] σ s
theorem rTp_fr {X : tX} {V : tF} {pm : Nat → Bool} {rt : Option Rat} {σ s : kS} {I L A B : List Nat} (h : kfr I L A B σ s) (h1 : 2 ∉ I) (h2 : 3 ∉ A) (h3 : 4 ∉ A) (h4 : 5 ∉ A) (h5 : 6 ∉ A) (h6 : 7 ∉ A) (h8 : 8 ∉ A) (l1 : 18 ∉ L) (l2 : 19 ∉ L) (b1 : 9 ∉ B) (b2 : 10 ∉ B) (g : rTp X V pm rt σ) : rTp X V pm rt s := by
  refine ⟨rSt_fr h h1 h2 h3 h4 h5 h6 g.1, fun j hj ho c hc => ?_, fun j hj => ?_, (h.2.1 18 l1).trans g.2.2.2.1, (h.2.1 19 l2).trans g.2.2.2.2⟩
  · rw [h.2.2.2 9 b1, h.2.2.2 10 b2]
    exact g.2.1 j hj ho c hc
  · rw [h.2.2.1 8 h8]
    exact g.2.2.1 j hj
theorem R_Tp_fr {X : tX} {ρ : tR} {τ : tS} {σ s : kS} {I L A B : List Nat} (h : kfr I L A B σ s) (h1 : 2 ∉ I) (h2 : 3 ∉ A) (h3 : 4 ∉ A) (h4 : 5 ∉ A) (h5 : 6 ∉ A) (h6 : 7 ∉ A) (h8 : 8 ∉ A) (l1 : 18 ∉ L) (l2 : 19 ∉ L) (b1 : 9 ∉ B) (b2 : 10 ∉ B) (g : R_Tp X ρ τ σ) : R_Tp X ρ τ s := by
  obtain ⟨ok, V, fr, pm, rt, gV, xv, gr, hp, hc, hr⟩ := g
  exact ⟨ok, V, fr, pm, rt, gV, xv, gr, hp, hc, rTp_fr h h1 h2 h3 h4 h5 h6 h8 l1 l2 b1 b2 hr⟩
/-- the reference's state after slopes or reckoning: all leaves as they were -/
theorem rTp_al {X : tX} {V : tF} {pm : Nat → Bool} {rt : Option Rat} {σ s : kS} (h : fAl σ s) (hv : ∀ j, j < x_n X → x_o X j = 16 → vR X V s j) (g : rTp X V pm rt σ) : rTp X V pm rt s := by
  refine ⟨rSt_fr h (by decide) (by decide) (by decide) (by decide) (by decide) (by decide) g.1, hv, fun j hj => ?_, (h.2.1 18 (by decide)).trans g.2.2.2.1, (h.2.1 19 (by decide)).trans g.2.2.2.2⟩
  rw [h.2.2.1 8 (by decide)]
  exact g.2.2.1 j hj
theorem c_has {X : tX} {ρ : tR} {τ : tS} (h : cSt X ρ τ) (ok : x_ok X) (N : Nat) {i : Nat} (hi : i < x_n X) (v : Int32) : kf_No_hasCell N ρ τ i v = some (bI (0 ≤ v.toInt ∧ v.toInt ≤ (x_c X i : Int) - 1), τ) := by
  have cb := (xc_b ok hi).2
  have e0 : (0 : Int32).toInt = 0 := by decide
  unfold kf_No_hasCell kb_No_hasCell_0 kb_No_hasCell_19 kb_No_hasCell_20
  rw [(h.2.2 i hi).1.2.2.2.2]
  by_cases h1 : v < 0
  · rw [if_pos h1, bI_f (fun w => by rw [i32lt, e0] at h1; omega)]
    rfl
  · rw [if_neg h1]
    rw [i32lt, e0] at h1
    by_cases h2 : nI (x_c X i) ≤ v
    · rw [if_pos h2, bI_f (fun w => by rw [Int32.le_iff_toInt_le, nI_toInt (by omega)] at h2; omega)]
      rfl
    · rw [if_neg h2, bI_t (by rw [Int32.le_iff_toInt_le, nI_toInt (by omega)] at h2; omega)]
      rfl
theorem r_has {X : tX} (ok : x_ok X) (N : Nat) {i : Nat} (hi : i < x_n X) (v : Int32) : kf_PM_isIn N v.toInt64 0 ((nI (x_c X i) - 1).toInt64) = some (bI (0 ≤ v.toInt ∧ v.toInt ≤ (x_c X i : Int) - 1)) := by
  have cb := (xc_b ok hi).2
  rw [nI_m1 (by omega), show (0 : Int64) = zL 0 from rfl, pm_isIn N v rg_0 ⟨by omega, by omega⟩]
theorem r_part (N : Nat) (v : Int32) : kf_PM_isIn N v.toInt64 0 1 = some (bI (0 ≤ v.toInt ∧ v.toInt ≤ 1)) := by
  rw [show (0 : Int64) = zL 0 from rfl, show (1 : Int64) = zL 1 from rfl, pm_isIn N v rg_0 rg_1]
theorem c_side (N : Nat) (v : Int32) : kf_PL_isSide N v = some (bI (0 ≤ v.toInt ∧ v.toInt ≤ 1)) := by
  unfold kf_PL_isSide kb_PL_isSide_0 kb_PL_isSide_9 kb_PL_isSide_14
  by_cases h0 : v = 0
  · subst h0
    rfl
  · by_cases h1 : v = 1
    · subst h1
      rfl
    · rw [if_neg h0, if_neg h1, bI_f]
      · rfl
      · intro w
        obtain ⟨c, h2, h3⟩ := nI_ofR (v := v) (m := 1) w.1 (by omega)
        have : c = 0 ∨ c = 1 := by omega
        rcases this with rfl | rfl
        · exact h0 h3
        · exact h1 h3
def kq_node (N : Nat) (ρ : tR) (τ : tS) (v1 v2 : Int32) : Option (Int32 × tS) :=
  kk_call (kf_Tp_find N ρ τ v1) fun r5 s5 =>
  tk_opt r5 (some (-1, s5)) fun j => kf_No_describe N ρ s5 j v2
def kq_value (N : Nat) (ρ : tR) (τ : tS) (v1 v2 v3 : Int32) : Option (Int64 × tS) :=
  kk_call (kf_Tp_find N ρ τ v1) fun r5 s5 =>
  tk_opt r5 (some (-1099511627776, s5)) fun j =>
  kk_call (kf_No_hasCell N ρ s5 j v2) fun r18 s18 =>
  if r18 = 0 then some (-1099511627776, s18) else
  Option.bind (kf_PL_isSide N v3) fun r25 =>
  if r25 = 0 then some (-1099511627776, s18) else
  kk_call (kf_Tp_reckonUpTo N ρ s18 v1) fun r40 s40 =>
  Option.bind (mj_tabL (s40.2.2.2.2 j 9) (t_len ρ j) v2) fun x49 =>
  Option.bind (kf_Fr_sideOf N x49 v3) fun r51 => some (r51, s40)
def kq_slope (N : Nat) (ρ : tR) (τ : tS) (v1 v2 v3 v4 : Int32) : Option (Int64 × tS) :=
  kk_call (kf_Tp_find N ρ τ v1) fun r5 s5 =>
  kk_call (kf_Tp_find N ρ s5 v2) fun r15 s15 =>
  tk_opt r5 (some (-1099511627776, s15)) fun j =>
  tk_opt r15 (some (-1099511627776, s15)) fun b =>
  if v1 < v2 then some (-1099511627776, s15) else
  kk_call (kf_No_hasCell N ρ s15 b v3) fun r38 s38 =>
  if r38 = 0 then some (-1099511627776, s38) else
  Option.bind (kf_PL_isSide N v4) fun r46 =>
  if r46 = 0 then some (-1099511627776, s38) else
  kk_call (kf_Tp_reckonUpTo N ρ s38 v1) fun r61 s61 =>
  kk_call (kf_Tp_sumSlopes N ρ s61 v1 v2) fun r70 s70 =>
  Option.bind (mj_tabL (s70.2.2.2.2 b 10) (t_len ρ b) v3) fun x79 =>
  Option.bind (kf_Fr_sideOf N x79 v4) fun r82 => some (r82, s70)
theorem op_node (N : Nat) (hN : 300 ≤ N) {X : tX} {ρ : tR} {τ : tS} {σ : kS} (h : R_Tp X ρ τ σ) (v w : Int32) : ∃ r, kq_node N ρ τ v w = some (r, τ) ∧ kf_PM_node N σ v w = some (r, σ) := by
  obtain ⟨ok, V, fr, pm, rt, gV, xv, gr, hp, hc, hr⟩ := h
  have hn := ok.1
  unfold kq_node kf_PM_node kb_PM_node_0 kb_PM_node_20
  rcases v_in v (n := x_n X) (by omega) with ⟨i, hi, rfl⟩ | hv
  · rw [cT_in hc.1 ok N hi, kk_some, tk_opt_s, rn_in hr.1 ok N hi, kk_some, if_neg (by decide)]
    have s3 := (ok.2 i hi).2.1.1
    obtain ⟨⟨a0, a1, a2, a3, a4⟩, ⟨b1, b2, b3⟩, _⟩ := hc.1.2.2 i hi
    obtain ⟨q1, q2, q3, q4, q5⟩ := hr.1.2 i hi
    rw [show (0 : Int64) = zL 0 from rfl, show (7 : Int64) = zL 7 from rfl, pm_isIn N w rg_0 ⟨by decide, by decide⟩, Option.bind_some]
    unfold kf_No_describe kb_No_describe_0 kb_No_describe_88
    by_cases hw : 0 ≤ w.toInt ∧ w.toInt ≤ 7
    · obtain ⟨c, hc7, rfl⟩ := nI_ofR (v := w) (m := 7) hw.1 hw.2
      rw [bI_t hw, if_neg (c := (1 : Int32) = 0) (by decide)]
      have sd : ∀ k, k < 3 → ∃ r, (if nI (k + 1) ≤ t_H ρ i 0 then kk_call (kf_Sh_placeOf N ρ τ i (nI (k + 1) - 1)) fun r82 s82 => kk_call (kf_Sh_lengthAt N ρ s82 i r82) fun r85 s85 => some (r85, s85) else some (0, τ)) = some (r, τ) ∧ (kk_call (kf_PM_sideOf N σ (nI i) (nI (k + 1) - 1)) fun r76 s76 => some (r76, s76)) = some (r, σ) := by
        intro k hk
        have e1 : nI (k + 1) - 1 = nI k := nI_sub (show 1 ≤ k + 1 by omega)
        rw [e1, rn_side hr.1 ok N hi (by omega), kk_some, a0]
        by_cases hs : k < x_s X i
        · refine ⟨_, ?_, rfl⟩
          rw [if_pos (by rw [nI_leI (by omega) (by omega)]; omega), if_pos hs]
          unfold kf_Sh_placeOf kb_Sh_placeOf_0 kf_Sh_lengthAt kb_Sh_lengthAt_0 kb_Sh_lengthAt_27
          rw [kk_some, a0, a1, a2, a3, show (3 : Int32) - nI (x_s X i) = nI (3 - x_s X i) from nI_sub (show x_s X i ≤ 3 by omega), nI_add]
          obtain e | e | e : 3 - x_s X i + k = 0 ∨ 3 - x_s X i + k = 1 ∨ 3 - x_s X i + k = 2 := by omega
          · rw [e]
            rfl
          · rw [e]
            rfl
          · rw [e]
            rfl
        · refine ⟨_, ?_, rfl⟩
          rw [if_neg (by rw [nI_leI (by omega) (by omega)]; omega), if_neg hs]
      have t : ∀ f, mj_tab (σ.2.2.1 f) 50 (nI i) = some (σ.2.2.1 f i) := fun f => mj_tab_nI (by omega) (by omega)
      obtain e | e | e | e | e | e | e | e : c = 0 ∨ c = 1 ∨ c = 2 ∨ c = 3 ∨ c = 4 ∨ c = 5 ∨ c = 6 ∨ c = 7 := by omega
      · subst e
        rw [if_pos (by decide), if_pos (by decide), t, Option.bind_some, q4, a0]
        exact ⟨_, rfl, rfl⟩
      · subst e
        exact sd 0 (by omega)
      · subst e
        exact sd 1 (by omega)
      · subst e
        exact sd 2 (by omega)
      · subst e
        rw [if_neg (by decide), if_neg (by decide), if_neg (by decide), if_neg (by decide), if_pos (by decide), if_neg (by decide), if_neg (by decide), if_neg (by decide), if_neg (by decide), if_pos (by decide), rn_cells hr.1 ok hN hi, kk_some, a4]
        exact ⟨_, rfl, rfl⟩
      · subst e
        rw [if_neg (by decide), if_neg (by decide), if_neg (by decide), if_neg (by decide), if_neg (by decide), if_pos (by decide), if_neg (by decide), if_neg (by decide), if_neg (by decide), if_neg (by decide), if_neg (by decide), if_pos (by decide), t, Option.bind_some, q1, b1]
        exact ⟨_, rfl, rfl⟩
      · subst e
        rw [if_neg (by decide), if_neg (by decide), if_neg (by decide), if_neg (by decide), if_neg (by decide), if_neg (by decide), if_pos (by decide), if_neg (by decide), if_neg (by decide), if_neg (by decide), if_neg (by decide), if_neg (by decide), if_neg (by decide), if_pos (by decide), t, Option.bind_some, q2, b2]
        exact ⟨_, rfl, rfl⟩
      · subst e
        rw [if_neg (by decide), if_neg (by decide), if_neg (by decide), if_neg (by decide), if_neg (by decide), if_neg (by decide), if_neg (by decide), if_pos (by decide), if_neg (by decide), if_neg (by decide), if_neg (by decide), if_neg (by decide), if_neg (by decide), if_neg (by decide), if_neg (by decide), t, Option.bind_some, q3, b3]
        exact ⟨_, rfl, rfl⟩
    · rw [bI_f hw, if_pos (c := (0 : Int32) = 0) rfl]
      have ne : ∀ c, c ≤ 7 → ¬ w = nI c := fun c h7 q => hw (by rw [q, nI_toInt (by omega)]; omega)
      rw [if_neg (show ¬ w = 0 from ne 0 (by omega)), if_neg (show ¬ w = 1 from ne 1 (by omega)), if_neg (show ¬ w = 2 from ne 2 (by omega)), if_neg (show ¬ w = 3 from ne 3 (by omega)), if_neg (show ¬ w = 4 from ne 4 (by omega)), if_neg (show ¬ w = 5 from ne 5 (by omega)), if_neg (show ¬ w = 6 from ne 6 (by omega)), if_neg (show ¬ w = 7 from ne 7 (by omega))]
      exact ⟨_, rfl, rfl⟩
  · rw [cT_out hc.1 ok N hv, kk_some, tk_opt_n, rn_out hr.1 ok N hv, kk_some, if_pos rfl]
    exact ⟨_, rfl, rfl⟩
