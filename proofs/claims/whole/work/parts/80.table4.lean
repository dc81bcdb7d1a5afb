/-! THE TABLE, 4: its calls -/
def R_Ta (τ σ : kS) : Prop := ∃ (n : Nat) (cl : Nat → Nat) (x : Nat → Nat → Int32), taV n cl x τ ∧ pmV n cl x σ ∧ ∀ r, r < n → ∀ c, c < 4 → -1000 ≤ (x r c).toInt ∧ (x r c).toInt ≤ 1000
abbrev fTa (σ s : kS) : Prop := kfr [20, 22, 23] [0, 1, 24, 25] [21] [] σ s
theorem ne_10000 {x : Int32} (h : x.toInt ≤ 1000) : x ≠ 10000 := fun e => by
  rw [e] at h
  exact absurd h (by decide)
theorem R_Ta_fr {τ σ s : kS} {I L A B : List Nat} (h : kfr I L A B σ s) (hI : 20 ∉ I) (hA : 21 ∉ A) (g : R_Ta τ σ) : R_Ta τ s := by
  obtain ⟨n, cl, x, g1, g2, g3⟩ := g
  exact ⟨n, cl, x, g1, pmV_fr h hI hA g2, g3⟩
theorem i32lt (x y : Int32) : x < y ↔ x.toInt < y.toInt := Int32.lt_iff_toInt_lt
theorem ta_isNumber (N : Nat) (v : Int32) : kf_Ta_isNumber N v = some (bI (-1000 ≤ v.toInt ∧ v.toInt ≤ 1000)) := by
  unfold kf_Ta_isNumber kb_Ta_isNumber_0 kb_Ta_isNumber_18 kb_Ta_isNumber_19
  have e1 : (-1000 : Int32).toInt = -1000 := by decide
  have e2 : (1000 : Int32).toInt = 1000 := by decide
  have k1 : v < -1000 ↔ v.toInt < -1000 := by rw [i32lt, e1]
  have k2 : 1000 < v ↔ 1000 < v.toInt := by rw [i32lt, e2]
  by_cases h1 : v.toInt < -1000
  · rw [if_pos (k1.mpr h1), bI_f (c := -1000 ≤ v.toInt ∧ v.toInt ≤ 1000) (by omega)]
    rfl
  · rw [if_neg (fun q => h1 (k1.mp q))]
    by_cases h2 : 1000 < v.toInt
    · rw [if_pos (k2.mpr h2), bI_f (c := -1000 ≤ v.toInt ∧ v.toInt ≤ 1000) (by omega)]
      rfl
    · rw [if_neg (fun q => h2 (k2.mp q)), bI_t (c := -1000 ≤ v.toInt ∧ v.toInt ≤ 1000) (by omega)]
      rfl
theorem ta_isColumn (N : Nat) (v : Int32) : kf_Ta_isColumn N v = some (bI (0 ≤ v.toInt ∧ v.toInt ≤ 3)) := by
  unfold kf_Ta_isColumn kb_Ta_isColumn_0 kb_Ta_isColumn_13 kb_Ta_isColumn_14
  have e1 : (0 : Int32).toInt = 0 := by decide
  have e2 : (4 : Int32).toInt = 4 := by decide
  have k1 : v < 0 ↔ v.toInt < 0 := by rw [i32lt, e1]
  have k2 : 4 ≤ v ↔ 4 ≤ v.toInt := by rw [Int32.le_iff_toInt_le, e2]
  by_cases h1 : v.toInt < 0
  · rw [if_pos (k1.mpr h1), bI_f (c := 0 ≤ v.toInt ∧ v.toInt ≤ 3) (by omega)]
    rfl
  · rw [if_neg (fun q => h1 (k1.mp q))]
    by_cases h2 : 4 ≤ v.toInt
    · rw [if_pos (k2.mpr h2), bI_f (c := 0 ≤ v.toInt ∧ v.toInt ≤ 3) (by omega)]
      rfl
    · rw [if_neg (fun q => h2 (k2.mp q)), bI_t (c := 0 ≤ v.toInt ∧ v.toInt ≤ 3) (by omega)]
      rfl
theorem nI_ofR {v : Int32} {m : Nat} (h0 : 0 ≤ v.toInt) (h1 : v.toInt ≤ m) : ∃ c, c ≤ m ∧ v = nI c := by
  obtain ⟨j, hj, rfl⟩ := nI_of (x := v) (by rw [i32lt]; show ¬ v.toInt < 0; omega)
  rw [nI_toInt hj] at h1
  exact ⟨j, by omega, rfl⟩
theorem pm_isIn (N : Nat) (v : Int32) {a b : Int} (ha : rg a) (hb : rg b) : kf_PM_isIn N v.toInt64 (zL a) (zL b) = some (bI (a ≤ v.toInt ∧ v.toInt ≤ b)) := by
  rw [i2l]
  exact kp_isIn N (rg_i v) ha hb
theorem tl_all (cl : Nat → Nat) (x : Nat → Int32) (v : Int32) (k : Nat) : ∀ r : Nat, (∀ q, q < r → x q ≤ v) → tl cl x v false r k = 0
  | 0, _ => rfl
  | r + 1, h => by
    have := tl_all cl x v k r (fun q hq => h q (by omega))
    simp [tl, h r (by omega), this]
theorem cs_cost {n : Nat} {cl : Nat → Nat} {x : Nat → Nat → Int32} {c : Nat} (hn : n ≤ 40) (hcl : ∀ q, q < n → cl q < 4) (hx : ∀ q, q < n → (x q c).toInt ≤ 1000) : tcost n cl x c (cs n cl x c n).1 = (cs n cl x c n).2 := by
  have inv := cs_inv n cl x c n (fun q hq => ne_10000 (hx q hq))
  by_cases h : (cs n cl x c n).2 = none
  · rw [h, inv.1.mpr h]
    have hsum := s4_sum cl (fun q => x q c) 10000 n hcl
    have h0 : s4 (tl cl (fun q => x q c) 10000 false n) = 0 := by
      have z : ∀ k, tl cl (fun q => x q c) 10000 false n k = 0 := fun k => tl_all cl (fun q => x q c) 10000 k n (fun q hq => by
        rw [Int32.le_iff_toInt_le]
        have := hx q hq
        have e : (10000 : Int32).toInt = 10000 := by decide
        show (x q c).toInt ≤ _
        omega)
      unfold s4
      rw [z, z, z, z]
    exact (tc_none (by omega) (by omega)).mpr (Or.inr h0)
  · exact (inv.2.1 h).symm
def bs (n : Nat) (cl : Nat → Nat) (x : Nat → Nat → Int32) : Nat → Int32 × Option Rat
  | 0 => (-2, none)
  | c + 1 => if (cs n cl x c n).2 ≠ none ∧ ((bs n cl x c).2 = none ∨ fab (bs n cl x c).2 (cs n cl x c n).2) then (nI c, (cs n cl x c n).2) else bs n cl x c
theorem bs_inv {n : Nat} {cl : Nat → Nat} {x : Nat → Nat → Int32} (hx : ∀ r, r < n → ∀ c, c < 4 → (x r c).toInt ≤ 1000) : ∀ c, c ≤ 4 → ((bs n cl x c).1 = -2 ↔ (bs n cl x c).2 = none) ∧ fG (bs n cl x c).2
  | 0, _ => ⟨⟨fun _ => rfl, fun _ => rfl⟩, fG_none⟩
  | c + 1, hc => by
    have ih := bs_inv (cl := cl) hx c (by omega)
    have hg := (cs_inv n cl x c n (fun q hq => ne_10000 (hx q hq c (by omega)))).2.2
    unfold bs
    split
    · rename_i h
      refine ⟨⟨fun e => ?_, fun e => absurd e h.1⟩, hg⟩
      have e2 : (nI c).toInt = (-2 : Int32).toInt := congrArg Int32.toInt e
      rw [nI_toInt (by omega)] at e2
      have e3 : (-2 : Int32).toInt = -2 := by decide
      omega
    · exact ih
theorem ta_cut {N : Nat} (hN : 100 ≤ N) {n c : Nat} (hc : c < 4) {cl : Nat → Nat} {x : Nat → Nat → Int32} (hx : ∀ q, q < n → (x q c).toInt ≤ 1000) {τ : kS} (hT : taV n cl x τ) : ∃ τ2, kf_Ta_bestCutOf N τ (nI c) = some ((cs n cl x c n).1, τ2) ∧ kfr [] [] [2, 3] [] τ τ2 :=
  ta_cutloop hN hc (fun q hq => ne_10000 (hx q hq)) n 0 N τ (by omega) (by have := hT.1; omega) hT
theorem pm_cut {N : Nat} (hN : 100 ≤ N) {n c : Nat} (hc : c < 4) {cl : Nat → Nat} {x : Nat → Nat → Int32} (hx : ∀ q, q < n → (x q c).toInt ≤ 1000) {σ : kS} (hT : pmV n cl x σ) : ∃ s, kf_PM_cut N σ (nI c) = some ((cs n cl x c n).1, s) ∧ kfr [22, 23] [0, 1, 24, 25] [] [] σ s ∧ s.2.1 24 = zL (pP (cs n cl x c n).2) ∧ s.2.1 25 = zL (pQ (cs n cl x c n).2) := by
  have fr : kfr [22, 23] [0, 1, 24, 25] [] [] σ (kL (kL σ 24 0) 25 0) := kfr_trans (kfr_L (by decide)) (kfr_L (by decide))
  obtain ⟨s, g1, g2, g3, g4⟩ := pm_cutloop hN hc (cl := cl) (fun q hq => ne_10000 (hx q hq)) n 0 N (kL (kL σ 24 0) 25 0) (by omega) (by have := hT.1; omega) (pmV_fr fr (by decide) (by decide) hT) rfl rfl
  refine ⟨s, ?_, kfr_trans fr g2, g3, g4⟩
  unfold kf_PM_cut kb_PM_cut_0
  rw [show (0 : Int64) = zL 0 from rfl, show (3 : Int64) = zL 3 from rfl, pm_isIn N (nI c) rg_0 ⟨by decide, by decide⟩, Option.bind_some, nI_toInt (by omega), if_neg (fun q => bI_0.mp q (by omega))]
  exact g1
theorem ta_bestloop {N : Nat} (hN : 100 ≤ N) {n : Nat} {cl : Nat → Nat} {x : Nat → Nat → Int32} (hx : ∀ r, r < n → ∀ c, c < 4 → (x r c).toInt ≤ 1000) : ∀ (d c fu : Nat) (τ : kS), d + c = 4 → d < fu → taV n cl x τ →
    ∃ τ2, kb_Ta_bestColumn_8 N fu τ (bs n cl x c).1 (en (bs n cl x c).2) (nI c) = some ((bs n cl x 4).1, τ2) ∧ kfr [] [] [2, 3] [] τ τ2 := by
  intro d
  induction d with
  | zero =>
    intro c fu τ hd hf hT
    obtain ⟨f', rfl⟩ : ∃ f', fu = f' + 1 := ⟨fu - 1, by omega⟩
    have hr : c = 4 := by omega
    subst hr
    refine ⟨τ, ?_, kfr_refl _ _ _ _ _⟩
    rw [kb_Ta_bestColumn_8, if_pos (by decide)]
  | succ d ih =>
    intro c fu τ hd hf hT
    obtain ⟨f', rfl⟩ : ∃ f', fu = f' + 1 := ⟨fu - 1, by omega⟩
    have hn := hT.1
    have hxc : ∀ q, q < n → (x q c).toInt ≤ 1000 := fun q hq => hx q hq c (by omega)
    obtain ⟨τ1, a1, a2⟩ := ta_cut hN (by omega) hxc hT
    have hT1 := taV_fr a2 hT
    obtain ⟨τ2, b1, b2⟩ := ta_cost hN (c := c) (by omega) (cs n cl x c n).1 hT1
    have hT2 := taV_fr b2 hT1
    obtain ⟨τ3, g1, g2⟩ := ih (c + 1) f' τ2 (by omega) (by omega) hT2
    refine ⟨τ3, ?_, kfr_trans a2 (kfr_trans b2 g2)⟩
    rw [cs_cost hn (fun q hq => (hT.2.2 q hq).1) hxc] at b1
    have i2 := (bs_inv (cl := cl) hx c (by omega)).2
    have hg := (cs_inv n cl x c n (fun q hq => ne_10000 (hxc q hq))).2.2
    rw [← g1, kb_Ta_bestColumn_8, if_neg (by rw [show (4 : Int32) = nI 4 from rfl, nI_leI (by omega) (by omega)]; omega), a1, kk_some, b1, kk_some, ta_isLess N hg i2, Option.bind_some]
    have eb : bs n cl x (c + 1) = if (cs n cl x c n).2 ≠ none ∧ ((bs n cl x c).2 = none ∨ fab (bs n cl x c).2 (cs n cl x c n).2) then (nI c, (cs n cl x c n).2) else bs n cl x c := rfl
    unfold kb_Ta_bestColumn_43
    rw [eb, nI_1]
    by_cases h : (cs n cl x c n).2 ≠ none ∧ ((bs n cl x c).2 = none ∨ fab (bs n cl x c).2 (cs n cl x c n).2)
    · rw [if_neg (fun q => bI_0.mp q h), if_pos h]
    · rw [if_pos (bI_0.mpr h), if_neg h]
theorem pm_bestloop {N : Nat} (hN : 100 ≤ N) {n : Nat} {cl : Nat → Nat} {x : Nat → Nat → Int32} (hx : ∀ r, r < n → ∀ c, c < 4 → (x r c).toInt ≤ 1000) : ∀ (d c fu : Nat) (σ : kS), d + c = 4 → d < fu → pmV n cl x σ →
    ∃ s, kb_PM_best_11 N fu σ (bs n cl x c).1 (zL (pP (bs n cl x c).2)) (zL (pQ (bs n cl x c).2)) (nI c) = some ((bs n cl x 4).1, s) ∧ kfr [22, 23] [0, 1, 24, 25] [] [] σ s := by
  intro d
  induction d with
  | zero =>
    intro c fu σ hd hf hT
    obtain ⟨f', rfl⟩ : ∃ f', fu = f' + 1 := ⟨fu - 1, by omega⟩
    have hr : c = 4 := by omega
    subst hr
    refine ⟨σ, ?_, kfr_refl _ _ _ _ _⟩
    rw [kb_PM_best_11, if_pos (by decide)]
  | succ d ih =>
    intro c fu σ hd hf hT
    obtain ⟨f', rfl⟩ : ∃ f', fu = f' + 1 := ⟨fu - 1, by omega⟩
    have hxc : ∀ q, q < n → (x q c).toInt ≤ 1000 := fun q hq => hx q hq c (by omega)
    obtain ⟨s1, a1, a2, a3, a4⟩ := pm_cut hN (by omega) hxc hT
    have hT1 : pmV n cl x s1 := pmV_fr a2 (by decide) (by decide) hT
    obtain ⟨s2, g1, g2⟩ := ih (c + 1) f' s1 (by omega) (by omega) hT1
    refine ⟨s2, ?_, kfr_trans a2 g2⟩
    have i2 := bs_inv (cl := cl) hx c (by omega)
    have hg := cs_inv n cl x c n (fun q hq => ne_10000 (hxc q hq))
    have eb : bs n cl x (c + 1) = if (cs n cl x c n).2 ≠ none ∧ ((bs n cl x c).2 = none ∨ fab (bs n cl x c).2 (cs n cl x c n).2) then (nI c, (cs n cl x c n).2) else bs n cl x c := rfl
    rw [← g1, kb_PM_best_11, if_neg (by rw [show (4 : Int32) = nI 4 from rfl, nI_leI (by omega) (by omega)]; omega), a1, kk_some]
    unfold kb_PM_best_55 kb_PM_best_69
    rw [a3, a4, kp_isAbove N i2.2 hg.2.2, Option.bind_some, nI_1, eb]
    by_cases h1 : (cs n cl x c n).2 = none
    · rw [if_pos (hg.1.mpr h1), if_neg (fun q => q.1 h1)]
    · rw [if_neg (fun q => h1 (hg.1.mp q))]
      by_cases h2 : (bs n cl x c).2 = none
      · rw [if_pos (i2.1.mpr h2), if_pos ⟨h1, Or.inl h2⟩]
      · rw [if_neg (fun q => h2 (i2.1.mp q))]
        by_cases h3 : fab (bs n cl x c).2 (cs n cl x c n).2
        · rw [if_neg (fun q => bI_0.mp q h3), if_pos ⟨h1, Or.inr h3⟩]
        · rw [if_pos (bI_0.mpr h3), if_neg (fun q => q.2.elim h2 h3)]
theorem op_best {N : Nat} (hN : 100 ≤ N) {τ σ : kS} (h : R_Ta τ σ) : ∃ r τ2 s, kf_Ta_bestColumn N τ = some (r, τ2) ∧ kf_PM_best N σ = some (r, s) ∧ R_Ta τ2 s ∧ fTa σ s := by
  obtain ⟨n, cl, x, g1, g2, g3⟩ := h
  have hx : ∀ r, r < n → ∀ c, c < 4 → (x r c).toInt ≤ 1000 := fun r hr c hc => (g3 r hr c hc).2
  obtain ⟨τ2, a1, a2⟩ := ta_bestloop hN hx 4 0 N τ (by omega) (by omega) g1
  obtain ⟨s, b1, b2⟩ := pm_bestloop hN hx 4 0 N σ (by omega) (by omega) g2
  exact ⟨_, τ2, s, a1, b1, ⟨n, cl, x, taV_fr a2 g1, pmV_fr b2 (by decide) (by decide) g2, g3⟩, kfr_mono b2 (by decide) (by decide) (by decide) (by decide)⟩
theorem op_cut {N : Nat} (hN : 100 ≤ N) {τ σ : kS} (h : R_Ta τ σ) (v : Int32) : (kf_Ta_isColumn N v = some 0 ∧ kf_PM_cut N σ v = some (-1, σ)) ∨ (kf_Ta_isColumn N v = some 1 ∧ ∃ r τ2 s, kf_Ta_bestCutOf N τ v = some (r, τ2) ∧ kf_PM_cut N σ v = some (r, s) ∧ R_Ta τ2 s ∧ fTa σ s) := by
  obtain ⟨n, cl, x, g1, g2, g3⟩ := h
  rw [ta_isColumn]
  by_cases hv : 0 ≤ v.toInt ∧ v.toInt ≤ 3
  · rw [bI_t hv]
    obtain ⟨c, hc, rfl⟩ := nI_ofR (m := 3) hv.1 hv.2
    have hx : ∀ r, r < n → (x r c).toInt ≤ 1000 := fun r hr => (g3 r hr c (by omega)).2
    obtain ⟨τ2, a1, a2⟩ := ta_cut hN (by omega) hx g1
    obtain ⟨s, b1, b2, b3, b4⟩ := pm_cut hN (by omega) hx g2
    exact Or.inr ⟨rfl, _, τ2, s, a1, b1, ⟨n, cl, x, taV_fr a2 g1, pmV_fr b2 (by decide) (by decide) g2, g3⟩, kfr_mono b2 (by decide) (by decide) (by decide) (by decide)⟩
  · rw [bI_f hv]
    refine Or.inl ⟨rfl, ?_⟩
    unfold kf_PM_cut kb_PM_cut_0
    rw [show (0 : Int64) = zL 0 from rfl, show (3 : Int64) = zL 3 from rfl, pm_isIn N v rg_0 ⟨by decide, by decide⟩, Option.bind_some, if_pos (bI_0.mpr hv)]
/-- the cost: the class's long is of the fraction that the reference tells -/
theorem op_cost {N : Nat} (hN : 100 ≤ N) {τ σ : kS} (h : R_Ta τ σ) {c : Nat} (hc : c < 4) (v : Int32) : ∃ f τ2 s r, fG f ∧ kf_Ta_costOf N τ (nI c) v = some (en f, τ2) ∧ kf_PM_costs N σ (nI c) v = some (r, s) ∧ s.2.1 0 = zL (pP f) ∧ s.2.1 1 = zL (pQ f) ∧ R_Ta τ2 s ∧ fTa σ s := by
  obtain ⟨n, cl, x, g1, g2, g3⟩ := h
  obtain ⟨τ2, a1, a2⟩ := ta_cost hN hc v g1
  obtain ⟨s, b1, b2, b3, b4⟩ := pm_costs hN hc v g2
  exact ⟨_, τ2, s, _, fG_tcost n cl x c v, a1, b1, b3, b4, ⟨n, cl, x, taV_fr a2 g1, pmV_fr b2 (by decide) (by decide) g2, g3⟩, kfr_mono b2 (by decide) (by decide) (by decide) (by decide)⟩
theorem op_clear (N : Nat) {τ σ : kS} (h : R_Ta τ σ) : ∃ r τ2 s, kf_Ta_dropAll N τ = some (r, τ2) ∧ kf_PM_clear N σ = some (r, s) ∧ R_Ta τ2 s ∧ fTa σ s := by
  obtain ⟨n, cl, x, g1, g2, g3⟩ := h
  refine ⟨nI n, kI τ 4 0, kI σ 20 0, ?_, ?_, ⟨0, cl, x, ⟨by omega, rfl, fun r hr => absurd hr (by omega)⟩, ⟨by omega, rfl, fun r hr => absurd hr (by omega)⟩, fun r hr => absurd hr (by omega)⟩, kfr_I (by decide)⟩
  · unfold kf_Ta_dropAll kb_Ta_dropAll_0 kk_let
    rw [g1.2.1]
  · unfold kf_PM_clear kb_PM_clear_0 kk_let
    rw [g2.2.1]
theorem op_row (N : Nat) {τ σ : kS} (h : R_Ta τ σ) (a b c d e : Int32) : ∃ r τ2 s, kf_Ta_addRow N τ a b c d e = some (r, τ2) ∧ kf_PM_row N σ a b c d e = some (r, s) ∧ R_Ta τ2 s ∧ fTa σ s := by
  obtain ⟨n, cl, x, g1, g2, g3⟩ := h
  have keep : R_Ta τ σ := ⟨n, cl, x, g1, g2, g3⟩
  unfold kf_Ta_addRow kb_Ta_addRow_0 kb_Ta_addRow_40 kf_PM_row kb_PM_row_0 kb_PM_row_74
  rw [show (-1000 : Int64) = zL (-1000) from rfl, show (1000 : Int64) = zL 1000 from rfl, show (0 : Int64) = zL 0 from rfl, show (3 : Int64) = zL 3 from rfl]
  have r1 : rg (-1000) := ⟨by decide, by decide⟩
  have r2 : rg 1000 := ⟨by decide, by decide⟩
  have r3 : rg 3 := ⟨by decide, by decide⟩
  rw [ta_isNumber, ta_isNumber, ta_isNumber, ta_isNumber, pm_isIn N a r1 r2, pm_isIn N b r1 r2, pm_isIn N c r1 r2, pm_isIn N d r1 r2, pm_isIn N e rg_0 r3]
  simp only [Option.bind_some]
  have bad : kb_PM_row_75 N σ a b c d e 0 = some (-1, σ) := if_pos rfl
  have bads : ∃ r τ2 s, some ((-1 : Int32), τ) = some (r, τ2) ∧ kb_PM_row_75 N σ a b c d e 0 = some (r, s) ∧ R_Ta τ2 s ∧ fTa σ s := ⟨-1, τ, σ, rfl, bad, keep, kfr_refl _ _ _ _ _⟩
  by_cases ha : -1000 ≤ a.toInt ∧ a.toInt ≤ 1000
  case neg => rw [if_pos (bI_0.mpr ha), if_pos (bI_0.mpr ha)]; exact bads
  rw [if_neg (fun q => bI_0.mp q ha), if_neg (fun q => bI_0.mp q ha)]
  by_cases hb : -1000 ≤ b.toInt ∧ b.toInt ≤ 1000
  case neg => rw [if_pos (bI_0.mpr hb), if_pos (bI_0.mpr hb)]; exact bads
  rw [if_neg (fun q => bI_0.mp q hb), if_neg (fun q => bI_0.mp q hb)]
  by_cases hc : -1000 ≤ c.toInt ∧ c.toInt ≤ 1000
  case neg => rw [if_pos (bI_0.mpr hc), if_pos (bI_0.mpr hc)]; exact bads
  rw [if_neg (fun q => bI_0.mp q hc), if_neg (fun q => bI_0.mp q hc)]
  by_cases hd : -1000 ≤ d.toInt ∧ d.toInt ≤ 1000
  case neg => rw [if_pos (bI_0.mpr hd), if_pos (bI_0.mpr hd)]; exact bads
  rw [if_neg (fun q => bI_0.mp q hd), if_neg (fun q => bI_0.mp q hd)]
  have e0 : (0 : Int32).toInt = 0 := by decide
  have e4 : (4 : Int32).toInt = 4 := by decide
  have k1 : e < 0 ↔ e.toInt < 0 := by rw [i32lt, e0]
  have k2 : e < 4 ↔ e.toInt < 4 := by rw [i32lt, e4]
  by_cases he : 0 ≤ e.toInt ∧ e.toInt ≤ 3
  case neg =>
    rw [if_pos (c := bI _ = 0) (bI_0.mpr he)]
    by_cases h1 : e.toInt < 0
    · rw [if_pos (k1.mpr h1)]
      exact bads
    · rw [if_neg (fun q => h1 (k1.mp q)), if_neg (fun q => by have := k2.mp q; omega)]
      exact bads
  rw [if_neg (c := bI _ = 0) (fun q => bI_0.mp q he), if_neg (fun q => by have := k1.mp q; omega), if_pos (k2.mpr (by omega))]
  obtain ⟨k, hk, rfl⟩ := nI_ofR (m := 3) he.1 he.2
  obtain ⟨hn, hsz, hrow⟩ := g1
  obtain ⟨_, hsz2, hrow2⟩ := g2
  unfold kb_PM_row_75
  rw [if_neg (show ¬ (1 : Int32) = 0 by decide)]
  by_cases hf : n < 40
  case neg =>
    have : n = 40 := by omega
    subst this
    rw [if_neg (by rw [hsz]; decide), if_pos (by rw [hsz2]; rfl)]
    exact ⟨_, _, _, rfl, rfl, keep, kfr_refl _ _ _ _ _⟩
  have n40 : nI n < 40 := by rw [show (40 : Int32) = nI 40 from rfl, nI_ltI (by omega) (by omega)]; omega
  have n40' : ¬ nI n = 40 := by rw [show (40 : Int32) = nI 40 from rfl, nI_eq (by omega) (by omega)]; omega
  have m4 : nI n * 4 = nI (4 * n) := by rw [show (4 : Int32) = nI 4 from rfl, nI_mul, Nat.mul_comm]
  have m5 : 5 * nI n = nI (5 * n) := by rw [show (5 : Int32) = nI 5 from rfl, nI_mul]
  have p1 : ∀ m, nI m + 1 = nI (m + 1) := fun m => nI_1 m
  have p2 : ∀ m, nI m + 2 = nI (m + 2) := fun m => nI_add m 2
  have p3 : ∀ m, nI m + 3 = nI (m + 3) := fun m => nI_add m 3
  have p4 : ∀ m, nI m + 4 = nI (m + 4) := fun m => nI_add m 4
  simp only [kk_let, kA_1, hsz, hsz2]
  rw [if_pos n40, if_neg n40']
  simp only [m4, m5, p1, p2, p3, p4]
  rw [mj_gd_nI (by omega) (by omega), mj_gd_nI (by omega) (by omega), mj_gd_nI (by omega) (by omega), mj_gd_nI (by omega) (by omega), mj_gd_nI (by omega) (by omega), mj_gd_nI (by omega) (by omega), mj_gd_nI (by omega) (by omega), mj_gd_nI (by omega) (by omega), mj_gd_nI (by omega) (by omega), mj_gd_nI (by omega) (by omega)]
  simp only [nI_clamp (show 4 * n < 2 ^ 31 by omega), nI_clamp (show 4 * n + 1 < 2 ^ 31 by omega), nI_clamp (show 4 * n + 2 < 2 ^ 31 by omega), nI_clamp (show 4 * n + 3 < 2 ^ 31 by omega), nI_clamp (show n < 2 ^ 31 by omega), nI_clamp (show 5 * n < 2 ^ 31 by omega), nI_clamp (show 5 * n + 1 < 2 ^ 31 by omega), nI_clamp (show 5 * n + 2 < 2 ^ 31 by omega), nI_clamp (show 5 * n + 3 < 2 ^ 31 by omega), nI_clamp (show 5 * n + 4 < 2 ^ 31 by omega)]
  refine ⟨nI (n + 1), _, _, rfl, rfl, ⟨n + 1, fun r => if r = n then k else cl r, fun r j => if r = n then (if j = 0 then a else if j = 1 then b else if j = 2 then c else d) else x r j, ⟨by omega, rfl, ?_⟩, ⟨by omega, rfl, ?_⟩, ?_⟩, ?_⟩
  · intro r hr
    by_cases er : r = n
    · subst er
      refine ⟨by simp only [if_true]; omega, by rw [kI_2, kA_3, if_pos ⟨rfl, rfl⟩]; simp only [if_true], fun j hj => ?_⟩
      simp only [kI_2, kA_3]
      rcases (show j = 0 ∨ j = 1 ∨ j = 2 ∨ j = 3 by omega) with q | q | q | q <;> subst q <;> simp
    · have hr2 : r < n := by omega
      refine ⟨by simp only [er, if_false]; exact (hrow r hr2).1, ?_, fun j hj => ?_⟩
      · simp only [kI_2, kA_3]
        simp [er]
        exact (hrow r hr2).2.1
      · simp only [kI_2, kA_3]
        have z0 : ¬ 4 * r + j = 4 * n := by omega
        have z1 : ¬ 4 * r + j = 4 * n + 1 := by omega
        have z2 : ¬ 4 * r + j = 4 * n + 2 := by omega
        have z3 : ¬ 4 * r + j = 4 * n + 3 := by omega
        simp [er, z0, z1, z2, z3]
        exact (hrow r hr2).2.2 j hj
  · intro r hr
    by_cases er : r = n
    · subst er
      refine ⟨by simp only [if_true]; omega, by rw [kI_2, kA_3, if_pos ⟨rfl, rfl⟩]; simp only [if_true], fun j hj => ?_⟩
      simp only [kI_2, kA_3]
      rcases (show j = 0 ∨ j = 1 ∨ j = 2 ∨ j = 3 by omega) with q | q | q | q <;> subst q <;> simp
    · have hr2 : r < n := by omega
      refine ⟨by simp only [er, if_false]; exact (hrow2 r hr2).1, ?_, fun j hj => ?_⟩
      · simp only [kI_2, kA_3]
        have z0 : ¬ 5 * r + 4 = 5 * n := by omega
        have z1 : ¬ 5 * r + 4 = 5 * n + 1 := by omega
        have z2 : ¬ 5 * r + 4 = 5 * n + 2 := by omega
        have z3 : ¬ 5 * r + 4 = 5 * n + 3 := by omega
        have z4 : ¬ 5 * r + 4 = 5 * n + 4 := by omega
        simp only [z0, z1, z2, z3, z4, er, and_false, if_false]
        exact (hrow2 r hr2).2.1
      · simp only [kI_2, kA_3]
        have z0 : ¬ 5 * r + j = 5 * n := by omega
        have z1 : ¬ 5 * r + j = 5 * n + 1 := by omega
        have z2 : ¬ 5 * r + j = 5 * n + 2 := by omega
        have z3 : ¬ 5 * r + j = 5 * n + 3 := by omega
        have z4 : ¬ 5 * r + j = 5 * n + 4 := by omega
        simp only [z0, z1, z2, z3, z4, er, and_false, if_false]
        exact (hrow2 r hr2).2.2 j hj
  · intro r hr j hj
    by_cases er : r = n
    · simp only [er, if_true]
      rcases (show j = 0 ∨ j = 1 ∨ j = 2 ∨ j = 3 by omega) with q | q | q | q <;> subst q <;> simp <;> assumption
    · simp only [er, if_false]
      exact g3 r (by omega) j hj
  · exact kfr_trans (kfr_trans (kfr_trans (kfr_trans (kfr_trans (kfr_A (by decide)) (kfr_A (by decide))) (kfr_A (by decide))) (kfr_A (by decide))) (kfr_A (by decide))) (kfr_I (by decide))
