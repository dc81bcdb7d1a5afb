/-! FRACTIONS, 4: acts on fractions, on both sides -/
def fadd (x y : Option Rat) : Option Rat := match x, y with
  | some r, some s => fx (r + s)
  | _, _ => none
def fmul (x y : Option Rat) : Option Rat := match x, y with
  | some r, some s => fx (r * s)
  | _, _ => none
def fdiv (x y : Option Rat) : Option Rat := match x, y with
  | some r, some s => if s = 0 then none else fx (r * s⁻¹)
  | _, _ => none
def fneg (x : Option Rat) : Option Rat := match x with
  | some r => some (-r)
  | none => none
def finv (x : Option Rat) : Option Rat := match x with
  | some r => if r = 0 then none else some r⁻¹
  | none => none
def frnd (x : Option Rat) : Option Rat := match x with
  | some r => fo ((8192 * r.num + r.den) / (2 * r.den)) 4096
  | none => none
theorem fx_of {r : Rat} (h : fG (some r)) : fx r = some r := if_pos (h r rfl)
theorem fG_add (x y : Option Rat) : fG (fadd x y) := by
  unfold fadd
  split
  · exact fG_fx _
  · exact fG_none
theorem fG_mul (x y : Option Rat) : fG (fmul x y) := by
  unfold fmul
  split
  · exact fG_fx _
  · exact fG_none
theorem fG_div (x y : Option Rat) : fG (fdiv x y) := by
  unfold fdiv
  split
  · split
    · exact fG_none
    · exact fG_fx _
  · exact fG_none
theorem fG_neg {x : Option Rat} (h : fG x) : fG (fneg x) := by
  cases x with
  | none => exact fG_none
  | some r =>
    intro s e
    cases e
    have := h r rfl
    rw [Rat.neg_num, Rat.neg_den, Int.natAbs_neg]
    exact this
theorem fG_rnd (x : Option Rat) : fG (frnd x) := by
  unfold frnd
  split
  · exact fG_fo _ _
  · exact fG_none
theorem fG_inv {x : Option Rat} (h : fG x) : fG (finv x) := by
  cases x with
  | none => exact fG_none
  | some r =>
    unfold finv
    by_cases h0 : r = 0
    · simp only [h0, if_true]
      exact fG_none
    · simp only [h0, if_false]
      intro s e
      cases e
      have h1 := h r rfl
      have h2 : r.num ≠ 0 := fun q => h0 (Rat.num_eq_zero.mp q)
      rw [Rat.num_inv, Rat.den_inv, if_neg h2, Int.natAbs_mul, Int.natAbs_sign_of_ne_zero h2, Nat.one_mul, Int.natAbs_natCast]
      omega
theorem nab {n : Nat} (h : n ≤ 2147483647) : ((n : Nat) : Int).natAbs ≤ 2147483647 := by
  rw [Int.natAbs_natCast]
  exact h
theorem mb_le {a b : Int} (ha : a.natAbs ≤ 2147483647) (hb : b.natAbs ≤ 2147483647) : (a * b).natAbs ≤ 4611686014132420609 := by
  rw [Int.natAbs_mul]
  exact Nat.le_trans (Nat.mul_le_mul ha hb) (by decide)
theorem rg_mul {a b : Int} (ha : a.natAbs ≤ 2147483647) (hb : b.natAbs ≤ 2147483647) : rg (a * b) := by
  have := mb_le ha hb
  exact ⟨by omega, by omega⟩
theorem rg_mul2 {a b c d : Int} (ha : a.natAbs ≤ 2147483647) (hb : b.natAbs ≤ 2147483647) (hc : c.natAbs ≤ 2147483647) (hd : d.natAbs ≤ 2147483647) : rg (a * b + c * d) := by
  have := mb_le ha hb
  have := mb_le hc hd
  exact ⟨by omega, by omega⟩
theorem fG_Pn {f : Option Rat} (h : fG f) : (pP f).natAbs ≤ 2147483647 := by
  have := fG_P h
  omega
theorem fG_Qn {f : Option Rat} (h : fG f) : (pQ f).natAbs ≤ 2147483647 := by
  have := fG_Q h
  omega
theorem pQ_0 {f : Option Rat} : pQ f = 0 ↔ f = none := by
  cases f with
  | none => exact ⟨fun _ => rfl, fun _ => rfl⟩
  | some r =>
    have := r.den_pos
    refine ⟨fun h => ?_, fun h => by cases h⟩
    have : (r.den : Int) = 0 := h
    omega
theorem di_self (r : Rat) : Rat.divInt r.num r.den = r := Rat.num_divInt_den r
theorem fo_add (r s : Rat) : fo (r.num * s.den + s.num * r.den) (r.den * s.den) = fx (r + s) := by
  have h1 := r.den_pos; have h2 := s.den_pos
  have h3 : (r.den : Int) * s.den ≠ 0 := Int.mul_ne_zero (by omega) (by omega)
  unfold fo
  rw [if_neg h3, Rat.add_def', ← Rat.divInt_ofNat, Int.natCast_mul]
theorem fo_mul (r s : Rat) : fo (r.num * s.num) (r.den * s.den) = fx (r * s) := by
  have h1 := r.den_pos; have h2 := s.den_pos
  have h3 : (r.den : Int) * s.den ≠ 0 := Int.mul_ne_zero (by omega) (by omega)
  unfold fo
  rw [if_neg h3, Rat.mul_def', ← Rat.divInt_ofNat, Int.natCast_mul]
theorem fo_div (r s : Rat) : fo (r.num * s.den) (r.den * s.num) = fdiv (some r) (some s) := by
  have h1 := r.den_pos; have h2 := s.den_pos
  unfold fo fdiv
  by_cases h : s = 0
  · have : s.num = 0 := Rat.num_eq_zero.mpr h
    simp only [h, if_true]
    rw [if_pos (by rw [show (0 : Rat).num = 0 from rfl, Int.mul_zero])]
  · have h0 : s.num ≠ 0 := fun q => h (Rat.num_eq_zero.mp q)
    have h3 : (r.den : Int) * s.num ≠ 0 := Int.mul_ne_zero (by omega) h0
    simp only [h, if_false]
    rw [if_neg h3, Rat.inv_def]
    conv => rhs; rw [← di_self r]
    rw [Rat.divInt_mul_divInt]
/-- the reference's plus -/
theorem kp_plus {N : Nat} (hN : 100 ≤ N) (σ : kS) {x y : Option Rat} (hx : fG x) (hy : fG y) : kf_PM_plus N σ (zL (pP x)) (zL (pQ x)) (zL (pP y)) (zL (pQ y)) = some ((), kPQ σ (fadd x y)) := by
  unfold kf_PM_plus kb_PM_plus_0 kb_PM_plus_13 kb_PM_plus_39
  have hw : kf_PM_least N σ (zL 0) (zL 0) = some ((), kPQ σ none) := kp_least hN σ rg_0 rg_0
  rw [zL_0, hw]
  by_cases h1 : x = none
  · rw [if_pos ((zg_eq (rg_pQ hx) rg_0).mpr (pQ_0.mpr h1)), h1]
    rfl
  · rw [if_neg (fun h => h1 (pQ_0.mp ((zg_eq (rg_pQ hx) rg_0).mp h)))]
    by_cases h2 : y = none
    · rw [if_pos ((zg_eq (rg_pQ hy) rg_0).mpr (pQ_0.mpr h2)), h2]
      cases x <;> rfl
    · rw [if_neg (fun h => h2 (pQ_0.mp ((zg_eq (rg_pQ hy) rg_0).mp h))), zL_mul, zL_mul, zL_mul, zL_add, kp_least hN σ (rg_mul2 (fG_Pn hx) (fG_Qn hy) (fG_Pn hy) (fG_Qn hx)) (rg_mul (fG_Qn hx) (fG_Qn hy))]
      cases x with
      | none => exact absurd rfl h1
      | some r =>
        cases y with
        | none => exact absurd rfl h2
        | some s =>
          show some ((), kPQ σ (fo (r.num * s.den + s.num * r.den) (r.den * s.den))) = _
          rw [fo_add]
          rfl
theorem kp_times {N : Nat} (hN : 100 ≤ N) (σ : kS) {x y : Option Rat} (hx : fG x) (hy : fG y) : kf_PM_times N σ (zL (pP x)) (zL (pQ x)) (zL (pP y)) (zL (pQ y)) = some ((), kPQ σ (fmul x y)) := by
  unfold kf_PM_times kb_PM_times_0 kb_PM_times_13 kb_PM_times_34
  have hw : kf_PM_least N σ (zL 0) (zL 0) = some ((), kPQ σ none) := kp_least hN σ rg_0 rg_0
  rw [zL_0, hw]
  by_cases h1 : x = none
  · rw [if_pos ((zg_eq (rg_pQ hx) rg_0).mpr (pQ_0.mpr h1)), h1]
    rfl
  · rw [if_neg (fun h => h1 (pQ_0.mp ((zg_eq (rg_pQ hx) rg_0).mp h)))]
    by_cases h2 : y = none
    · rw [if_pos ((zg_eq (rg_pQ hy) rg_0).mpr (pQ_0.mpr h2)), h2]
      cases x <;> rfl
    · rw [if_neg (fun h => h2 (pQ_0.mp ((zg_eq (rg_pQ hy) rg_0).mp h))), zL_mul, zL_mul, kp_least hN σ (rg_mul (fG_Pn hx) (fG_Pn hy)) (rg_mul (fG_Qn hx) (fG_Qn hy))]
      cases x with
      | none => exact absurd rfl h1
      | some r =>
        cases y with
        | none => exact absurd rfl h2
        | some s =>
          show some ((), kPQ σ (fo (r.num * s.num) (r.den * s.den))) = _
          rw [fo_mul]
          rfl
theorem kp_over {N : Nat} (hN : 100 ≤ N) (σ : kS) {x y : Option Rat} (hx : fG x) (hy : fG y) : kf_PM_over N σ (zL (pP x)) (zL (pQ x)) (zL (pP y)) (zL (pQ y)) = some ((), kPQ σ (fdiv x y)) := by
  unfold kf_PM_over kb_PM_over_0 kb_PM_over_13 kb_PM_over_34
  have hw : kf_PM_least N σ (zL 0) (zL 0) = some ((), kPQ σ none) := kp_least hN σ rg_0 rg_0
  rw [zL_0, hw]
  by_cases h1 : x = none
  · rw [if_pos ((zg_eq (rg_pQ hx) rg_0).mpr (pQ_0.mpr h1)), h1]
    rfl
  · rw [if_neg (fun h => h1 (pQ_0.mp ((zg_eq (rg_pQ hx) rg_0).mp h)))]
    by_cases h2 : y = none
    · rw [if_pos ((zg_eq (rg_pQ hy) rg_0).mpr (pQ_0.mpr h2)), h2]
      cases x <;> rfl
    · rw [if_neg (fun h => h2 (pQ_0.mp ((zg_eq (rg_pQ hy) rg_0).mp h))), zL_mul, zL_mul, kp_least hN σ (rg_mul (fG_Pn hx) (fG_Qn hy)) (rg_mul (fG_Qn hx) (fG_Pn hy))]
      cases x with
      | none => exact absurd rfl h1
      | some r =>
        cases y with
        | none => exact absurd rfl h2
        | some s =>
          show some ((), kPQ σ (fo (r.num * s.den) (r.den * s.num))) = _
          rw [fo_div]
/-! the class's acts -/
theorem tdiv_nat (a b : Nat) : (a : Int).tdiv (b : Int) = ((a / b : Nat) : Int) := (Int.ofNat_tdiv a b).symm
theorem add_as (r s : Rat) : r + s = Rat.divInt (r.num * ((s.den / Nat.gcd r.den s.den : Nat) : Int) + s.num * ((r.den / Nat.gcd r.den s.den : Nat) : Int)) (((r.den / Nat.gcd r.den s.den * s.den : Nat)) : Int) := by
  have hg : Nat.gcd r.den s.den ≠ 0 := Nat.ne_of_gt (Nat.gcd_pos_of_pos_left _ r.den_pos)
  rw [Rat.add_def', Rat.divInt_ofNat]
  conv => rhs; rw [← Rat.mkRat_mul_right hg]
  have e1 : r.den / Nat.gcd r.den s.den * Nat.gcd r.den s.den = r.den := Nat.div_mul_cancel (Nat.gcd_dvd_left _ _)
  have e2 : s.den / Nat.gcd r.den s.den * Nat.gcd r.den s.den = s.den := Nat.div_mul_cancel (Nat.gcd_dvd_right _ _)
  have e3 : r.den / Nat.gcd r.den s.den * s.den * Nat.gcd r.den s.den = r.den * s.den := by
    rw [Nat.mul_right_comm, e1]
  rw [e3, Int.add_mul, Int.mul_assoc, Int.mul_assoc, ← Int.natCast_mul, ← Int.natCast_mul, e1, e2]
theorem kf_add {N : Nat} (hN : 100 ≤ N) {x y : Option Rat} (hx : fG x) (hy : fG y) : kf_Fr_add N (en x) (en y) = some (en (fadd x y)) := by
  unfold kf_Fr_add kb_Fr_add_0 kb_Fr_add_12 kb_Fr_add_26 kb_Fr_add_37
  rw [← en_Z, ← en_0]
  by_cases h1 : x = none
  · rw [if_pos ((lg_en hx fG_none).mpr h1), h1]
    rfl
  rw [if_neg (fun h => h1 ((lg_en hx fG_none).mp h))]
  by_cases h2 : y = none
  · rw [if_pos ((lg_en hy fG_none).mpr h2), h2]
    cases x <;> rfl
  rw [if_neg (fun h => h2 ((lg_en hy fG_none).mp h))]
  obtain ⟨r, rfl⟩ : ∃ r, x = some r := by
    cases x with
    | none => exact absurd rfl h1
    | some r => exact ⟨r, rfl⟩
  obtain ⟨s, rfl⟩ : ∃ s, y = some s := by
    cases y with
    | none => exact absurd rfl h2
    | some s => exact ⟨s, rfl⟩
  have efa : fadd (some r) (some s) = fx (r + s) := rfl
  rw [efa]
  by_cases h3 : (some r : Option Rat) = some 0
  · rw [if_pos ((lg_en hx fG_Z).mpr h3), if_pos ((lg_en hx fG_Z).mpr h3)]
    cases h3
    rw [Rat.zero_add, fx_of hy]
  rw [if_neg (fun h => h3 ((lg_en hx fG_Z).mp h))]
  by_cases h4 : (some s : Option Rat) = some 0
  · rw [if_pos ((lg_en hy fG_Z).mpr h4), if_neg (fun h => h3 ((lg_en hx fG_Z).mp h))]
    cases h4
    rw [Rat.add_zero, fx_of hx]
  rw [if_neg (fun h => h4 ((lg_en hy fG_Z).mp h))]
  simp only [kf_bottomOf N hx, kf_bottomOf N hy, kf_topOf N hx, kf_topOf N hy, Option.bind_some]
  have hr := hx r rfl
  have hs := hy s rfl
  have eP : pP (some r) = r.num := rfl
  have eQ : pQ (some r) = r.den := rfl
  have eP' : pP (some s) = s.num := rfl
  have eQ' : pQ (some s) = s.den := rfl
  rw [eP, eQ, eP', eQ', kg_gcd hN (rg_nat (by omega)) (rg_nat (by omega)), Int.natAbs_natCast, Int.natAbs_natCast, Nat.max_eq_right (Nat.gcd_pos_of_pos_left _ r.den_pos)]
  have hgp : 0 < Nat.gcd r.den s.den := Nat.gcd_pos_of_pos_left _ r.den_pos
  have hgl : Nat.gcd r.den s.den ≤ r.den := Nat.gcd_le_left _ r.den_pos
  have hra : r.den / Nat.gcd r.den s.den ≤ r.den := Nat.div_le_self _ _
  have hsa : s.den / Nat.gcd r.den s.den ≤ s.den := Nat.div_le_self _ _
  have hg0 : ¬ zL ((Nat.gcd r.den s.den : Nat) : Int) = en none := fun h => by
    have := (zL_eq (rg_nat (by omega)) rg_0).mp h
    omega
  simp only [Option.bind_some]
  rw [if_neg hg0, if_neg hg0, zL_div (rg_nat (by omega)) (rg_nat (by omega)), zL_div (rg_nat (by omega)) (rg_nat (by omega)), tdiv_nat, tdiv_nat, zL_mul, zL_mul, zL_add]
  have htr : rg (r.num * ((s.den / Nat.gcd r.den s.den : Nat) : Int) + s.num * ((r.den / Nat.gcd r.den s.den : Nat) : Int)) := rg_mul2 hr.1 (nab (Nat.le_trans hsa hs.2)) hs.1 (nab (Nat.le_trans hra hr.2))
  have haux := Rat.add.aux r s (g := Nat.gcd r.den s.den) rfl rfl rfl
  have hsum := add_as r s
  generalize hT : r.num * ((s.den / Nat.gcd r.den s.den : Nat) : Int) + s.num * ((r.den / Nat.gcd r.den s.den : Nat) : Int) = T at htr hsum haux ⊢
  rw [kg_gcd hN htr (rg_nat (by omega)), Int.natAbs_natCast, Nat.max_eq_right (Nat.gcd_pos_of_pos_right _ hgp)]
  have hhp : 0 < Nat.gcd T.natAbs (Nat.gcd r.den s.den) := Nat.gcd_pos_of_pos_right _ hgp
  have hhl : Nat.gcd T.natAbs (Nat.gcd r.den s.den) ≤ Nat.gcd r.den s.den := Nat.gcd_le_right _ hgp
  have hhd : Nat.gcd T.natAbs (Nat.gcd r.den s.den) ∣ s.den := Nat.dvd_trans (Nat.gcd_dvd_right _ _) (Nat.gcd_dvd_right _ _)
  generalize hH : Nat.gcd T.natAbs (Nat.gcd r.den s.den) = H at hhp hhl hhd haux ⊢
  have hh0 : ¬ zL ((H : Nat) : Int) = en none := fun h => by
    have := (zL_eq (rg_nat (by omega)) rg_0).mp h
    omega
  simp only [Option.bind_some]
  have hsb : s.den / H ≤ s.den := Nat.div_le_self _ _
  rw [if_neg hh0, if_neg hh0, zL_div htr (rg_nat (by omega)), zL_div (rg_nat (by omega)) (rg_nat (by omega)), tdiv_nat, zL_mul]
  have hdp : 0 < r.den / Nat.gcd r.den s.den * s.den := Nat.mul_pos (Nat.div_pos hgl hgp) s.den_pos
  have hdi : (((r.den / Nat.gcd r.den s.den * s.den : Nat)) : Int) ≠ 0 := by omega
  have hgg : Nat.gcd T.natAbs (((r.den / Nat.gcd r.den s.den * s.den : Nat)) : Int).natAbs = H := by
    rw [Int.natAbs_natCast]
    exact haux.symm.trans hH
  rw [kf_fitR N (r := r + s) (rg_tdiv _ htr) (rg_mul (nab (Nat.le_trans hra hr.2)) (nab (Nat.le_trans hsb hs.2))) (by rw [hsum, di_num hdi, if_neg (by omega), hgg]) (by
    rw [hsum, di_den hdi, if_neg (by omega), hgg, tdiv_nat, Nat.mul_div_assoc _ hhd, Int.natCast_mul])]
  rfl
theorem mul_num (r s : Rat) : (r * s).num = r.num.tdiv ((Nat.gcd r.num.natAbs s.den : Nat) : Int) * s.num.tdiv ((Nat.gcd s.num.natAbs r.den : Nat) : Int) := by
  show (Rat.mul r s).num = _
  rw [Rat.mul]
  simp only [Int.divExact_eq_tdiv]
theorem mul_den (r s : Rat) : (r * s).den = r.den / Nat.gcd s.num.natAbs r.den * (s.den / Nat.gcd r.num.natAbs s.den) := by
  show (Rat.mul r s).den = _
  rw [Rat.mul]
  simp only [Nat.divExact_eq_div]
theorem kf_times {N : Nat} (hN : 100 ≤ N) {x y : Option Rat} (hx : fG x) (hy : fG y) : kf_Fr_times N (en x) (en y) = some (en (fmul x y)) := by
  unfold kf_Fr_times kb_Fr_times_0 kb_Fr_times_12 kb_Fr_times_30 kb_Fr_times_43
  rw [← en_O, ← en_0]
  by_cases h1 : x = none
  · rw [if_pos ((lg_en hx fG_none).mpr h1), h1]
    rfl
  rw [if_neg (fun h => h1 ((lg_en hx fG_none).mp h))]
  by_cases h2 : y = none
  · rw [if_pos ((lg_en hy fG_none).mpr h2), h2]
    cases x <;> rfl
  rw [if_neg (fun h => h2 ((lg_en hy fG_none).mp h))]
  obtain ⟨r, rfl⟩ : ∃ r, x = some r := by
    cases x with
    | none => exact absurd rfl h1
    | some r => exact ⟨r, rfl⟩
  obtain ⟨s, rfl⟩ : ∃ s, y = some s := by
    cases y with
    | none => exact absurd rfl h2
    | some s => exact ⟨s, rfl⟩
  have efa : fmul (some r) (some s) = fx (r * s) := rfl
  rw [efa]
  by_cases h3 : (some r : Option Rat) = some 1
  · rw [if_pos ((lg_en hx fG_O).mpr h3), if_pos ((lg_en hx fG_O).mpr h3)]
    cases h3
    rw [Rat.one_mul, fx_of hy]
  rw [if_neg (fun h => h3 ((lg_en hx fG_O).mp h))]
  by_cases h4 : (some s : Option Rat) = some 1
  · rw [if_pos ((lg_en hy fG_O).mpr h4), if_neg (fun h => h3 ((lg_en hx fG_O).mp h))]
    cases h4
    rw [Rat.mul_one, fx_of hx]
  rw [if_neg (fun h => h4 ((lg_en hy fG_O).mp h))]
  simp only [kf_bottomOf N hx, kf_bottomOf N hy, kf_topOf N hx, kf_topOf N hy, Option.bind_some]
  have hr := hx r rfl
  have hs := hy s rfl
  have eP : pP (some r) = r.num := rfl
  have eQ : pQ (some r) = r.den := rfl
  have eP' : pP (some s) = s.num := rfl
  have eQ' : pQ (some s) = s.den := rfl
  have gr : rg r.num := ⟨by omega, by omega⟩
  have gs : rg s.num := ⟨by omega, by omega⟩
  have g1p : 0 < Nat.gcd r.num.natAbs s.den := Nat.gcd_pos_of_pos_right _ s.den_pos
  have g2p : 0 < Nat.gcd s.num.natAbs r.den := Nat.gcd_pos_of_pos_right _ r.den_pos
  have g1l : Nat.gcd r.num.natAbs s.den ≤ s.den := Nat.gcd_le_right _ s.den_pos
  have g2l : Nat.gcd s.num.natAbs r.den ≤ r.den := Nat.gcd_le_right _ r.den_pos
  rw [eP, eQ, eP', eQ', kg_gcd hN gr (rg_nat (by omega)), Int.natAbs_natCast, Nat.max_eq_right g1p]
  simp only [Option.bind_some]
  rw [kg_gcd hN gs (rg_nat (by omega)), Int.natAbs_natCast, Nat.max_eq_right g2p]
  simp only [Option.bind_some]
  have h10 : ¬ zL ((Nat.gcd r.num.natAbs s.den : Nat) : Int) = en none := fun h => by
    have := (zL_eq (rg_nat (by omega)) rg_0).mp h
    omega
  have h20 : ¬ zL ((Nat.gcd s.num.natAbs r.den : Nat) : Int) = en none := fun h => by
    have := (zL_eq (rg_nat (by omega)) rg_0).mp h
    omega
  have k1 := Int.natAbs_tdiv_le_natAbs r.num ((Nat.gcd r.num.natAbs s.den : Nat) : Int)
  have k2 := Int.natAbs_tdiv_le_natAbs s.num ((Nat.gcd s.num.natAbs r.den : Nat) : Int)
  have k3 : r.den / Nat.gcd s.num.natAbs r.den ≤ r.den := Nat.div_le_self _ _
  have k4 : s.den / Nat.gcd r.num.natAbs s.den ≤ s.den := Nat.div_le_self _ _
  rw [if_neg h10, if_neg h20, if_neg h20, if_neg h10, zL_div gr (rg_nat (by omega)), zL_div gs (rg_nat (by omega)), zL_div (rg_nat (by omega)) (rg_nat (by omega)), zL_div (rg_nat (by omega)) (rg_nat (by omega)), tdiv_nat, tdiv_nat, zL_mul, zL_mul]
  rw [kf_fitR N (r := r * s) (rg_mul (Nat.le_trans k1 hr.1) (Nat.le_trans k2 hs.1)) (rg_mul (nab (Nat.le_trans k3 hr.2)) (nab (Nat.le_trans k4 hs.2))) (mul_num r s) (by rw [mul_den, Int.natCast_mul])]
  rfl
theorem pP_neg (x : Option Rat) : pP (fneg x) = -pP x := by
  cases x <;> rfl
theorem pQ_neg (x : Option Rat) : pQ (fneg x) = pQ x := by
  cases x <;> rfl
theorem kf_minus (N : Nat) {x : Option Rat} (hx : fG x) : kf_Fr_minus N (en x) = some (en (fneg x)) := by
  unfold kf_Fr_minus kb_Fr_minus_0
  simp only [kf_bottomOf N hx, kf_topOf N hx, Option.bind_some]
  rw [zL_neg]
  cases x with
  | none =>
    rw [kf_fit N (rg_neg (rg_pP hx)) (rg_pQ hx)]
    rfl
  | some r =>
    rw [kf_fitR N (r := -r) (rg_neg (rg_pP hx)) (rg_pQ hx) rfl rfl]
    have : fx (-r) = some (-r) := fx_of (fG_neg hx)
    rw [this]
    rfl
theorem kf_inverse (N : Nat) {x : Option Rat} (hx : fG x) : kf_Fr_inverse N (en x) = some (en (finv x)) := by
  unfold kf_Fr_inverse kb_Fr_inverse_0 kb_Fr_inverse_42
  simp only [kf_bottomOf N hx, kf_topOf N hx, Option.bind_some]
  rw [zL_0]
  cases x with
  | none =>
    rw [if_pos (show lg_cmp (zL (pP none)) (zL 0) = 0 from (zg_eq rg_0 rg_0).mpr rfl)]
    rfl
  | some r =>
    have hi := fG_inv hx
    have gp := rg_pP hx
    have gq := rg_pQ hx
    have eP : pP (some r) = r.num := rfl
    have eQ : pQ (some r) = r.den := rfl
    rw [eP] at gp ⊢
    rw [eQ] at gq ⊢
    by_cases h0 : r = 0
    · have hn : r.num = 0 := Rat.num_eq_zero.mpr h0
      rw [if_pos ((zg_eq gp rg_0).mpr hn)]
      unfold finv
      simp only [h0, if_true]
      rfl
    · have hn : r.num ≠ 0 := fun q => h0 (Rat.num_eq_zero.mp q)
      have ei : finv (some r) = some r⁻¹ := if_neg h0
      rw [ei] at hi ⊢
      rw [if_neg (fun h => hn ((zg_eq gp rg_0).mp h)), ← fx_of hi]
      by_cases h : 0 ≤ r.num
      · rw [if_pos ((zg_ge gp rg_0).mpr h), kf_fitR N (r := r⁻¹) gq gp (by rw [Rat.num_inv, Int.sign_eq_one_of_pos (by omega), Int.one_mul]) (by rw [Rat.den_inv, if_neg hn]; omega)]
        rfl
      · rw [if_neg (fun q => h ((zg_ge gp rg_0).mp q)), zL_neg, zL_neg, kf_fitR N (r := r⁻¹) (rg_neg gq) (rg_neg gp) (by rw [Rat.num_inv, Int.sign_eq_neg_one_of_neg (by omega), Int.neg_mul, Int.one_mul]) (by rw [Rat.den_inv, if_neg hn]; omega)]
        rfl
