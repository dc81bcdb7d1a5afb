/-! THE TAPE, 18: the calls rate, parameter, tell -/
theorem c_isleaf {X : tX} {ρ : tR} {τ : tS} (h : cSt X ρ τ) (ok : x_ok X) (N : Nat) {i : Nat} (hi : i < x_n X) : kf_No_isLeaf N ρ τ i = some (bI (x_o X i = 16), τ) := by
  unfold kf_No_isLeaf kb_No_isLeaf_0 kb_No_isLeaf_12
  have b := (ok.2 i hi).1
  by_cases e : x_o X i = 16
  · rw [(h.2.2 i hi).2.2.1 e, tk_opt_n, bI_t e]
    rfl
  · rw [((h.2.2 i hi).2.2.2.1 (by omega)).1, tk_opt_s, bI_f e]
    rfl
theorem c_leafin {X : tX} {ρ : tR} {τ : tS} (h : cSt X ρ τ) (ok : x_ok X) (N : Nat) {i : Nat} (hi : i < x_n X) : kf_Tp_findLeaf N ρ τ (nI i) = some (if x_o X i = 16 then some i else none, τ) := by
  unfold kf_Tp_findLeaf kb_Tp_findLeaf_0 kb_Tp_findLeaf_17 kb_Tp_findLeaf_22
  rw [cT_in h ok N hi, kk_some, tk_opt_s, c_isleaf h ok N hi, kk_some]
  by_cases e : x_o X i = 16
  · rw [bI_t e, if_neg (by decide), if_pos e]
  · rw [bI_f e, if_pos rfl, if_neg e]
theorem c_leafout {X : tX} {ρ : tR} {τ : tS} (h : cSt X ρ τ) (ok : x_ok X) (N : Nat) {v : Int32} (hv : ¬ (0 ≤ v.toInt ∧ v.toInt ≤ (x_n X : Int) - 1)) : kf_Tp_findLeaf N ρ τ v = some (none, τ) := by
  unfold kf_Tp_findLeaf kb_Tp_findLeaf_0 kb_Tp_findLeaf_17 kb_Tp_findLeaf_22
  rw [cT_out h ok N hv, kk_some, tk_opt_n]
theorem r_leafin {X : tX} {σ : kS} (h : rSt X σ) (ok : x_ok X) (N : Nat) {i : Nat} (hi : i < x_n X) : kf_PM_isLeaf N σ (nI i) = some (bI (x_o X i = 16), σ) := by
  have hn := ok.1
  have b := (ok.2 i hi).1
  unfold kf_PM_isLeaf kb_PM_isLeaf_0 kb_PM_isLeaf_23 kb_PM_isLeaf_24
  rw [rn_in h ok N hi, kk_some, if_neg (by decide), mj_tab_nI (by omega) (by omega), Option.bind_some, (h.2 i hi).1]
  by_cases e : x_o X i = 16
  · rw [if_pos (show oI (x_o X i) (x_o X i) = -2 from if_pos e), bI_t e]
    rfl
  · rw [if_neg (oI_no (by omega) (by omega)), bI_f e]
    rfl
theorem r_leafout {X : tX} {σ : kS} (h : rSt X σ) (ok : x_ok X) (N : Nat) {v : Int32} (hv : ¬ (0 ≤ v.toInt ∧ v.toInt ≤ (x_n X : Int) - 1)) : kf_PM_isLeaf N σ v = some (0, σ) := by
  unfold kf_PM_isLeaf kb_PM_isLeaf_0 kb_PM_isLeaf_23 kb_PM_isLeaf_24
  rw [rn_out h ok N hv, kk_some, if_pos rfl]
  rfl
def kq_rate (N : Nat) (τ : tS) (v1 v2 : Int32) : Option (Int32 × tS) :=
  if 0 < v2 then Option.bind (kf_Fr_of N v1.toInt64 v2.toInt64) fun r14 => some (0, tL τ 2 r14) else some (-1, τ)
def kq_tell (N : Nat) (ρ : tR) (τ : tS) (v1 v2 v3 v4 : Int32) : Option (Int32 × tS) :=
  Option.bind (kf_Fr_of N v3.toInt64 v4.toInt64) fun r11 => kf_Tp_tellCell N ρ τ v1 v2 r11
theorem op_rate (N : Nat) (hN : 300 ≤ N) {X : tX} {ρ : tR} {τ : tS} {σ : kS} (h : R_Tp X ρ τ σ) (v w : Int32) : ∃ r τ' s, kq_rate N τ v w = some (r, τ') ∧ kf_PM_rate N σ v w = some (r, s) ∧ R_Tp X ρ τ' s ∧ fTp σ s := by
  have h0 := h
  obtain ⟨ok, V, fr, pm, rt, gV, xv, gr, hp, hc, hr⟩ := h
  unfold kq_rate kf_PM_rate kb_PM_rate_0
  have k1 : (0 : Int32) < w ↔ 0 < w.toInt := by rw [i32lt, show (0 : Int32).toInt = 0 from by decide]
  have k2 : (1 : Int32) ≤ w ↔ 1 ≤ w.toInt := by rw [Int32.le_iff_toInt_le, show (1 : Int32).toInt = 1 from by decide]
  by_cases hw : 0 < w.toInt
  · rw [if_pos (k1.mpr hw), if_pos (k2.mpr (by omega)), i2l, i2l, kf_of (by omega) (rg_i _) (rg_i _), Option.bind_some, kp_least (by omega) σ (rg_i _) (rg_i _), kk_some, kk_letE, kk_letE]
    generalize hx : fo v.toInt w.toInt = x
    have gx : fG x := by rw [← hx]; exact fG_fo _ _
    refine ⟨_, _, _, rfl, rfl, ⟨ok, V, fr, pm, x, gV, xv, gx, hp, ⟨⟨hc.1.1, hc.1.2.1, hc.1.2.2⟩, hc.2.1, hc.2.2.1, hc.2.2.2.1, hc.2.2.2.2.1, rfl⟩, ⟨?_, ?_, hr.2.2.1, rfl, rfl⟩⟩, ?_⟩
    · exact hr.1
    · exact hr.2.1
    · exact kfr_trans (kfr_PQ (by decide) (by decide)) (kfr_trans (kfr_L (by decide)) (kfr_L (by decide)))
  · rw [if_neg (fun q => hw (k1.mp q)), if_neg (fun q => by have := k2.mp q; omega)]
    exact ⟨_, _, _, rfl, rfl, h0, kfr_refl _ _ _ _ _⟩
theorem tN_3 (τ : tS) (i k : Nat) (v : Int32) (j g : Nat) : (tN τ i k v).2.2.1 j g = if j = i ∧ g = k then v else τ.2.2.1 j g := by
  unfold tN va_up upd
  by_cases h1 : j = i
  · subst h1
    by_cases h2 : g = k
    · simp [h2]
    · simp [h2]
  · simp [h1]
theorem nar_b01 (b : Bool) : vp_nar .boolean (bb b) = bb b := by cases b <;> decide
theorem op_par (N : Nat) {X : tX} {ρ : tR} {τ : tS} {σ : kS} (h : R_Tp X ρ τ σ) (v : Int32) (b : Bool) : ∃ r τ' s, kf_Tp_markParameter N ρ τ v (bb b) = some (r, τ') ∧ kf_PM_parameter N σ v (bb b) = some (r, s) ∧ R_Tp X ρ τ' s ∧ fTp σ s := by
  have h0 := h
  obtain ⟨ok, V, fr, pm, rt, gV, xv, gr, hp, hc, hr⟩ := h
  have hn := ok.1
  unfold kf_Tp_markParameter kb_Tp_markParameter_0 kf_PM_parameter kb_PM_parameter_0 kb_PM_parameter_33 kb_Tp_markParameter_24
  rcases v_in v (n := x_n X) (by omega) with ⟨i, hi, rfl⟩ | hv
  · rw [c_leafin hc.1 ok N hi, kk_some, r_leafin hr.1 ok N hi, kk_some]
    by_cases e : x_o X i = 16
    · have bz : bb b = 0 ∨ bb b = 1 := by cases b <;> decide
      have bq : bb b = bI (b = true) := by cases b <;> rfl
      rw [if_pos e, tk_opt_s, bI_t e, if_neg (show ¬ (1 : Int32) = 0 by decide), mj_tab_nI (by omega) (by omega), hr.2.2.1 i (by omega), hc.2.2.2.2.1 i hi]
      simp only [Option.bind_some]
      rw [mj_gd_nI (by omega) (by omega), kk_letE, nI_clamp (by omega), nar_b01]
      unfold mj_zz
      rw [if_pos bz, if_pos bz, kk_letE, kk_letE]
      refine ⟨bI (pm i = true), tN τ i 11 (bb b), kA σ 8 i (bb b), ?_, ?_, ⟨ok, V, fr, fun j => if j = i then b else pm j, rt, gV, xv, gr, fun j hj => ?_, ⟨?_, hc.2.1, hc.2.2.1, hc.2.2.2.1, fun j hj => ?_, hc.2.2.2.2.2⟩, ⟨?_, hr.2.1, fun j hj => ?_, hr.2.2.2.1, hr.2.2.2.2⟩⟩, kfr_A (by decide)⟩
      · by_cases q : pm i = true
        · rw [bI_t q, if_neg (by decide)]
        · rw [bI_f q, if_pos rfl]
      · by_cases q : pm i = true
        · rw [bI_t q, if_neg (by decide)]
        · rw [bI_f q, if_pos rfl]
      · by_cases q : j = i
        · subst q
          exact ⟨hi, e⟩
        · have hj' : (if j = i then b else pm j) = true := hj
          rw [if_neg q] at hj'
          exact hp j hj'
      · refine ⟨hc.1.1, hc.1.2.1, fun j hj => ?_⟩
        obtain ⟨z1, z2, z3, z4, z5, z6⟩ := hc.1.2.2 j hj
        refine ⟨z1, ?_, z3, fun o => ?_, z5, z6⟩
        · rw [tN_3, tN_3, tN_3, if_neg (fun w => absurd w.2 (by decide)), if_neg (fun w => absurd w.2 (by decide)), if_neg (fun w => absurd w.2 (by decide))]
          exact z2
        · rw [tN_3, if_neg (fun w => absurd w.2 (by decide))]
          exact z4 o
      · rw [tN_3]
        by_cases q : j = i
        · rw [if_pos ⟨q, rfl⟩, bq]
          simp only [q, if_true]
        · rw [if_neg (fun w => q w.1)]
          simp only [if_neg q]
          exact hc.2.2.2.2.1 j hj
      · exact rSt_fr (I := []) (L := []) (A := [8]) (B := []) (kfr_A (by decide)) (by decide) (by decide) (by decide) (by decide) (by decide) (by decide) hr.1
      · rw [kA_3]
        by_cases q : j = i
        · rw [if_pos ⟨rfl, q⟩, bq]
          simp only [q, if_true]
        · rw [if_neg (fun w => q w.2)]
          simp only [if_neg q]
          exact hr.2.2.1 j hj
    · rw [if_neg e, tk_opt_n, bI_f e, if_pos rfl]
      exact ⟨_, _, _, rfl, rfl, h0, kfr_refl _ _ _ _ _⟩
  · rw [c_leafout hc.1 ok N hv, kk_some, tk_opt_n, r_leafout hr.1 ok N hv, kk_some, if_pos rfl]
    exact ⟨_, _, _, rfl, rfl, h0, kfr_refl _ _ _ _ _⟩
theorem VV_self {X : tX} {V : tF} (xv : xV X V) : ∀ m, m ≤ x_n X → ∀ i, VV X V m i = V i
  | 0, _ => fun _ => rfl
  | m + 1, hm => fun i => by
    have ih := VV_self xv m (by omega)
    by_cases e : i = m
    · subst e
      funext c
      show (if i = i ∧ x_o X i < 16 then _ else _) = _
      by_cases ho : x_o X i < 16
      · rw [if_pos ⟨rfl, ho⟩, show VV X V i = V from funext ih]
        exact (xv i (by omega) ho c).symm
      · rw [if_neg (fun w => ho w.2), ih]
    · rw [VV_st e, ih]
theorem xV_VV {X : tX} (ok : x_ok X) (L : tF) : xV X (VV X L (x_n X)) := fun i hi ho c => VV_eq ok hi ho hi c
/-- the values after leaves have changed: those ahead of the first change stay -/
theorem VV_keep {X : tX} (ok : x_ok X) {V L : tF} (xv : xV X V) {m : Nat} (hm : m ≤ x_n X) (h : ∀ j, j < m → x_o X j = 16 → L j = V j) {j : Nat} (hj : j < m) : VV X L (x_n X) j = V j := by
  rw [VV_lt (x_n X) (by omega), ← VV_lt m hj, VV_cong (X := X) (Y := X) (L := V) (L' := L) ok m hm (fun i _ => ⟨rfl, rfl, rfl, rfl, rfl⟩) h j hj, VV_self xv m hm]
theorem kf_min (N : Nat) {a b : Nat} (ha : a < 2 ^ 31) (hb : b < 2 ^ 31) : kf_Jm_min0 N (nI a) (nI b) = some (nI (min a b)) := by
  unfold kf_Jm_min0 kb_Jm_min0_0 kb_Jm_min0_10
  by_cases h : b < a
  · rw [if_pos ((nI_ltI hb ha).mpr h), Nat.min_eq_right (by omega)]
  · rw [if_neg (fun q => h ((nI_ltI hb ha).mp q)), Nat.min_eq_left (by omega)]
theorem op_tell (N : Nat) (hN : 300 ≤ N) {X : tX} {ρ : tR} {τ : tS} {σ : kS} (h : R_Tp X ρ τ σ) (v w a b : Int32) : ∃ r τ' s, kq_tell N ρ τ v w a b = some (r, τ') ∧ kf_PM_tell N σ v w a b = some (r, s) ∧ R_Tp X ρ τ' s ∧ fTp σ s := by
  have h0 := h
  obtain ⟨ok, V, fr, pm, rt, gV, xv, gr, hp, hc, hr⟩ := h
  have hn := ok.1
  have hfr := hc.2.1
  unfold kq_tell kf_Tp_tellCell kb_Tp_tellCell_0 kb_Tp_tellCell_21 kb_Tp_tellCell_56 kf_PM_tell kb_PM_tell_0 kb_PM_tell_25 kb_PM_tell_80
  rw [i2l, i2l, kf_of (by omega) (rg_i _) (rg_i _), Option.bind_some]
  generalize hx : fo a.toInt b.toInt = x
  have gx : fG x := by rw [← hx]; exact fG_fo _ _
  rcases v_in v (n := x_n X) (by omega) with ⟨i, hi, rfl⟩ | hv
  · have cb := (xc_b ok hi).2
    rw [c_leafin hc.1 ok N hi, kk_some, r_leafin hr.1 ok N hi, kk_some]
    by_cases e : x_o X i = 16
    · rw [if_pos e, tk_opt_s, bI_t e, if_neg (show ¬ (1 : Int32) = 0 by decide), c_has hc.1 ok N hi, kk_some, rn_cells hr.1 ok (by omega) hi, kk_some, r_has ok N hi, Option.bind_some]
      by_cases hw : 0 ≤ w.toInt ∧ w.toInt ≤ (x_c X i : Int) - 1
      · obtain ⟨c, hc1, rfl⟩ := nI_ofR (v := w) (m := x_c X i - 1) hw.1 (by omega)
        have hcc : c < x_c X i := by
          have := (xc_b ok hi).1
          omega
        have le := kp_least (N := N) (by omega) σ (rg_i a) (rg_i b)
        rw [hx] at le
        have wz : kB (kB (kPQ σ x) 9 (64 * i + c) (zL (pP x))) 10 (64 * i + c) (zL (pQ x)) = wr2 (kPQ σ x) 9 10 (64 * i + c) x := rfl
        rw [bI_t hw, if_neg (show ¬ (1 : Int32) = 0 by decide), if_neg (show ¬ (1 : Int32) = 0 by decide), cS_len hc.1 ok hi, mj_gd_nI hcc (by omega), kk_letE, nI_clamp (by omega), show (tV τ i 9 c (en x)).1 3 = nI fr from hc.2.2.1, nI_1, kf_min N (by omega) (by omega), Option.bind_some, kk_letE, le, kk_some, n64, mj_gd_nI (by omega) (by omega), kk_letE, mj_gd_nI (by omega) (by omega), kk_letE, nI_clamp (by omega)]
        show ∃ r τ' s, _ ∧ (if lg_cmp (zL (pQ x)) 0 = 0 then some (1, wr2 (kPQ σ x) 9 10 (64 * i + c) x) else some (0, wr2 (kPQ σ x) 9 10 (64 * i + c) x)) = some (r, s) ∧ _
        have fr2 : kfr [] [0, 1] [] [9, 10] σ (wr2 (kPQ σ x) 9 10 (64 * i + c) x) := kfr_trans (kfr_PQ (by decide) (by decide)) (kfr_wr2 (by decide) (by decide))
        obtain ⟨V', hV'⟩ : ∃ V', V' = VV X (fup V i c x) (x_n X) := ⟨_, rfl⟩
        have gV' : gF V' := by rw [hV']; exact gF_VV (gF_up gV _ _ gx) _
        have xv' : xV X V' := by rw [hV']; exact xV_VV ok _
        have lf' : ∀ j, x_o X j = 16 → V' j = fup V i c x j := fun j ho => by rw [hV']; exact VV_leaf ho _
        have up_ne : ∀ j, j ≠ i → fup V i c x j = V j := fun j hj => by
          funext d
          exact if_neg (fun w => hj w.1)
        have kp : ∀ j, j < i → V' j = V j := fun j hj => by
          rw [hV']
          exact VV_keep ok xv (show i ≤ x_n X by omega) (fun q hq _ => up_ne q (by omega)) hj
        refine ⟨if x = none then 1 else 0, tI (tV τ i 9 c (en x)) 3 (nI (min fr (i + 1))), wr2 (kPQ σ x) 9 10 (64 * i + c) x, ?_, ?_, ⟨ok, V', min fr (i + 1), pm, rt, gV', xv', gr, hp, ⟨⟨hc.1.1, ?_, hc.1.2.2⟩, by omega, ?_, fun j hj q d hd => ?_, hc.2.2.2.2.1, hc.2.2.2.2.2⟩, ⟨?_, fun j hj ho => ?_, fun j hj => ?_, ?_, ?_⟩⟩, ?_⟩
        · by_cases z : x = none
          · rw [if_pos (show lg_cmp (en x) 0 = 0 from (lg_en gx fG_none).mpr z), if_pos z]
          · rw [if_neg (show ¬ lg_cmp (en x) 0 = 0 from fun q => z ((lg_en gx fG_none).mp q)), if_neg z]
        · by_cases z : x = none
          · rw [if_pos (by rw [zL_0, zg_eq (rg_pQ gx) rg_0]; exact pQ_0.mpr z), if_pos z]
          · rw [if_neg (by rw [zL_0, zg_eq (rg_pQ gx) rg_0]; exact fun q => z (pQ_0.mp q)), if_neg z]
        · rw [tI_1, if_neg (by decide)]
          exact hc.1.2.1
        · rw [tI_1, if_pos rfl]
        · show (tV τ i 9 c (en x)).2.2.2.2 j 9 d = en (V' j d)
          rw [tV_5]
          by_cases ej : j = i
          · subst ej
            rw [lf' j e]
            unfold fup
            by_cases ed : d = c
            · rw [if_pos ⟨rfl, rfl, ed⟩, if_pos ⟨rfl, ed⟩]
            · rw [if_neg (fun w => ed w.2.2), if_neg (fun w => ed w.2)]
              exact hc.2.2.2.1 j hj (Or.inr e) d hd
          · rw [if_neg (fun w => ej w.1)]
            have vj : V' j = V j := by
              rcases q with q | q
              · exact kp j (by omega)
              · rw [lf' j q, up_ne j ej]
            rw [vj]
            exact hc.2.2.2.1 j hj (by omega) d hd
        · exact rSt_fr fr2 (by decide) (by decide) (by decide) (by decide) (by decide) (by decide) hr.1
        · refine hR_ne (f := 9) (g := 10) (by decide) ok hi hj hcc (fun d hd => ⟨fun q => ?_, fun q => ?_⟩)
          · rw [lf' j ho]
            unfold fup
            rw [if_pos q]
          · rw [lf' j ho]
            unfold fup
            rw [if_neg q]
            exact hr.2.1 j hj ho d hd
        · rw [fr2.2.2.1 8 (by decide)]
          exact hr.2.2.1 j hj
        · exact (fr2.2.1 18 (by decide)).trans hr.2.2.2.1
        · exact (fr2.2.1 19 (by decide)).trans hr.2.2.2.2
        · exact kfr_mono fr2 (by decide) (by decide) (by decide) (by decide)
      · rw [bI_f hw, if_pos rfl, if_pos rfl]
        exact ⟨_, _, _, rfl, rfl, h0, kfr_refl _ _ _ _ _⟩
    · rw [if_neg e, tk_opt_n, bI_f e, if_pos rfl]
      exact ⟨_, _, _, rfl, rfl, h0, kfr_refl _ _ _ _ _⟩
  · rw [c_leafout hc.1 ok N hv, kk_some, tk_opt_n, r_leafout hr.1 ok N hv, kk_some, if_pos rfl]
    exact ⟨_, _, _, rfl, rfl, h0, kfr_refl _ _ _ _ _⟩
