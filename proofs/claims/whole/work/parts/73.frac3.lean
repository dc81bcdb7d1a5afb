/-! FRACTIONS, 3: the class's one long -/
def en (f : Option Rat) : Int64 := zL (pP f * 4294967296 + pQ f)
theorem sh_32 : (32 : Int32).toInt64 &&& 63 = 32 := by decide
theorem zL_shl (p : Int) : zL p <<< (32 : Int64) = zL (p * 4294967296) := by
  rw [← zL_mul]
  apply Int64.toBitVec_inj.mp
  have e1 : ((32 : Int64).toBitVec.smod 64).toNat = 32 := by decide
  have e2 : (zL 4294967296).toBitVec = BitVec.twoPow 64 32 := by decide
  rw [Int64.toBitVec_mul, e2, ← BitVec.shiftLeft_eq_mul_twoPow]
  show (zL p).toBitVec <<< ((32 : Int64).toBitVec.smod 64) = _
  rw [BitVec.shiftLeft_eq', e1]
theorem zL_or {p q : Int} (h0 : 0 ≤ q) (h1 : q < 4294967296) : zL (p * 4294967296) ||| zL q = zL (p * 4294967296 + q) := by
  rw [← zL_add, ← zL_shl]
  apply Int64.toBitVec_inj.mp
  rw [Int64.toBitVec_add, Int64.toBitVec_or]
  have e1 : ((32 : Int64).toBitVec.smod 64).toNat = 32 := by decide
  have e2 : (zL p <<< (32 : Int64)).toBitVec = (zL p).toBitVec <<< 32 := by
    show (zL p).toBitVec <<< ((32 : Int64).toBitVec.smod 64) = _
    rw [BitVec.shiftLeft_eq', e1]
  have e3 : (zL q).toBitVec = BitVec.ofNat 64 q.toNat := by
    apply BitVec.eq_of_toNat_eq
    show (BitVec.ofInt 64 q).toNat = _
    rw [BitVec.toNat_ofInt, BitVec.toNat_ofNat]
    omega
  rw [e2, e3]
  symm
  apply BitVec.add_eq_or_of_and_eq_zero
  apply BitVec.eq_of_getLsbD_eq
  intro i hi
  rw [BitVec.getLsbD_and, BitVec.getLsbD_shiftLeft, BitVec.getLsbD_ofNat, BitVec.getLsbD_zero]
  by_cases h : i < 32
  · simp [h]
  · have : q.toNat.testBit i = false := Nat.testBit_lt_two_pow (by
      have : 2 ^ 32 ≤ 2 ^ i := Nat.pow_le_pow_right (by decide) (by omega)
      omega)
    simp [this]
theorem zL_shr {z : Int} (h : rg z) : zL z >>> (32 : Int64) = zL (z / 4294967296) := by
  apply Int64.toInt_inj.mp
  have h1 := h.1; have h2 := h.2
  rw [zL_toInt (z := z / 4294967296) ⟨by omega, by omega⟩]
  have e1 : ((32 : Int64).toBitVec.smod 64).toNat = 32 := by decide
  show ((zL z).toBitVec.sshiftRight' ((32 : Int64).toBitVec.smod 64)).toInt = _
  rw [BitVec.sshiftRight', e1, BitVec.toInt_sshiftRight, Int.shiftRight_eq_div_pow]
  show (zL z).toInt / _ = _
  rw [zL_toInt h]
  rfl
theorem zL_and (z : Int) : zL z &&& 2147483647 = zL (z % 2147483648) := by
  apply Int64.toBitVec_inj.mp
  apply BitVec.eq_of_toNat_eq
  rw [Int64.toBitVec_and, BitVec.toNat_and]
  show (BitVec.ofInt 64 z).toNat &&& (2 ^ 31 - 1) = (BitVec.ofInt 64 (z % 2147483648)).toNat
  rw [Nat.and_two_pow_sub_one_eq_mod, BitVec.toNat_ofInt, BitVec.toNat_ofInt]
  omega
theorem kf_fit (N : Nat) {p q : Int} (hp : rg p) (hq : rg q) : kf_Fr_fit N (zL p) (zL q) = some (zL (if p.natAbs ≤ 2147483647 ∧ 1 ≤ q ∧ q ≤ 2147483647 then p * 4294967296 + q else 0)) := by
  unfold kf_Fr_fit kb_Fr_fit_0 kb_Fr_fit_30
  rw [zL_mostn, zL_most, zL_1, zL_0]
  by_cases h1 : 2147483647 < p
  · rw [if_pos ((zg_gt hp rg_most).mpr h1), if_neg (by omega)]
  · rw [if_neg (fun h => h1 ((zg_gt hp rg_most).mp h))]
    by_cases h2 : p < -2147483647
    · rw [if_pos ((zg_lt hp rg_mostn).mpr h2), if_neg (by omega)]
    · rw [if_neg (fun h => h2 ((zg_lt hp rg_mostn).mp h))]
      by_cases h3 : 2147483647 < q
      · rw [if_pos ((zg_gt hq rg_most).mpr h3), if_neg (by omega)]
      · rw [if_neg (fun h => h3 ((zg_gt hq rg_most).mp h))]
        by_cases h4 : 1 ≤ q
        · rw [if_pos ((zg_ge hq rg_1).mpr h4), if_pos (by omega), sh_32, zL_shl, zL_or (by omega) (by omega)]
        · rw [if_neg (fun h => h4 ((zg_ge hq rg_1).mp h)), if_neg (by omega)]
/-- 'fit' of what is in least terms -/
theorem kf_fitR (N : Nat) {r : Rat} {p q : Int} (hp : rg p) (hq : rg q) (h1 : r.num = p) (h2 : (r.den : Int) = q) : kf_Fr_fit N (zL p) (zL q) = some (en (fx r)) := by
  have hd := r.den_pos
  rw [kf_fit N hp hq]
  unfold fx
  by_cases h : r.num.natAbs ≤ 2147483647 ∧ r.den ≤ 2147483647
  · rw [if_pos h, if_pos (by omega), ← h1, ← h2]
    rfl
  · rw [if_neg h, if_neg (by omega)]
    rfl
theorem pQ_nn (f : Option Rat) : 0 ≤ pQ f := by
  cases f with
  | none => exact Int.le_refl _
  | some r => exact Int.natCast_nonneg _
theorem fG_P {f : Option Rat} (h : fG f) : -2147483647 ≤ pP f ∧ pP f ≤ 2147483647 := by
  cases f with
  | none => exact ⟨by decide, by decide⟩
  | some r =>
    have := (h r rfl).1
    show -2147483647 ≤ r.num ∧ r.num ≤ 2147483647
    omega
theorem fG_Q {f : Option Rat} (h : fG f) : 0 ≤ pQ f ∧ pQ f ≤ 2147483647 := by
  cases f with
  | none => exact ⟨by decide, by decide⟩
  | some r =>
    have := (h r rfl).2
    show 0 ≤ (r.den : Int) ∧ (r.den : Int) ≤ 2147483647
    omega
theorem rg_enz {f : Option Rat} (h : fG f) : rg (pP f * 4294967296 + pQ f) := by
  have h1 := fG_P h; have h2 := fG_Q h
  exact ⟨by omega, by omega⟩
theorem rg_pP {f : Option Rat} (h : fG f) : rg (pP f) := by
  have h1 := fG_P h
  exact ⟨by omega, by omega⟩
theorem rg_pQ {f : Option Rat} (h : fG f) : rg (pQ f) := by
  have h1 := fG_Q h
  exact ⟨by omega, by omega⟩
theorem kf_topOf (N : Nat) {f : Option Rat} (h : fG f) : kf_Fr_topOf N (en f) = some (zL (pP f)) := by
  have h1 := fG_P h; have h2 := fG_Q h
  unfold kf_Fr_topOf kb_Fr_topOf_0 en
  rw [sh_32, zL_shr (rg_enz h)]
  congr 2
  omega
theorem kf_bottomOf (N : Nat) {f : Option Rat} (h : fG f) : kf_Fr_bottomOf N (en f) = some (zL (pQ f)) := by
  have h1 := fG_P h; have h2 := fG_Q h
  unfold kf_Fr_bottomOf kb_Fr_bottomOf_0 en
  rw [zL_and]
  congr 2
  omega
theorem en_inj {f g : Option Rat} (hf : fG f) (hg : fG g) (h : en f = en g) : f = g := by
  have h1 := fG_P hf; have h2 := fG_Q hf; have h3 := fG_P hg; have h4 := fG_Q hg
  have e := (zL_eq (rg_enz hf) (rg_enz hg)).mp h
  have e1 : pP f = pP g := by omega
  have e2 : pQ f = pQ g := by omega
  cases f with
  | none =>
    cases g with
    | none => rfl
    | some s =>
      have hd := s.den_pos
      have e3 : (0 : Int) = s.den := e2
      omega
  | some r =>
    cases g with
    | none =>
      have hd := r.den_pos
      have e3 : (r.den : Int) = 0 := e2
      omega
    | some s =>
      have e3 : (r.den : Int) = s.den := e2
      exact congrArg some (Rat.ext e1 (by omega))
theorem en_0 : en none = 0 := rfl
theorem en_Z : en (some 0) = 1 := by decide
theorem en_O : en (some 1) = 4294967297 := by decide
theorem en_M : en (some (-1)) = -4294967295 := by decide
theorem fG_Z : fG (some 0) := fun r h => by cases h; decide
theorem fG_O : fG (some 1) := fun r h => by cases h; decide
theorem fG_M : fG (some (-1)) := fun r h => by cases h; decide
theorem lg_en {f g : Option Rat} (hf : fG f) (hg : fG g) : lg_cmp (en f) (en g) = 0 ↔ f = g := by
  rw [lg_eq0]
  exact ⟨en_inj hf hg, congrArg en⟩
/-- the class's 'of' -/
theorem kf_of {N : Nat} (hN : 100 ≤ N) {a b : Int} (ha : rg a) (hb : rg b) : kf_Fr_of N (zL a) (zL b) = some (en (fo a b)) := by
  unfold kf_Fr_of kb_Fr_of_0
  by_cases hb0 : b = 0
  · subst hb0
    rw [zL_0, if_pos ((zg_eq rg_0 rg_0).mpr rfl)]
    rfl
  rw [zL_0, if_neg (fun h => hb0 ((zg_eq hb rg_0).mp h)), kg_gcd hN ha hb]
  have hgp : 0 < Nat.gcd a.natAbs b.natAbs := Nat.gcd_pos_of_pos_right _ (by omega)
  have hgl := gcd_lt ha hb
  rw [Nat.max_eq_right hgp]
  have hg0 : ¬ zL ((Nat.gcd a.natAbs b.natAbs : Nat) : Int) = zL 0 := fun h => by
    have := (zL_eq (rg_nat hgl) rg_0).mp h
    omega
  simp only [Option.bind_some, kb_Fr_of_48]
  unfold fo
  rw [if_neg hb0]
  by_cases hs : 0 ≤ b
  · rw [if_pos ((zg_ge hb rg_0).mpr hs), if_neg hg0, if_neg hg0, zL_div ha (rg_nat hgl), zL_div hb (rg_nat hgl), kf_fitR N (rg_tdiv _ ha) (rg_tdiv _ hb) (by rw [di_num hb0, if_neg (by omega)]) (by rw [di_den hb0, if_neg (by omega)])]
    rfl
  · rw [if_neg (fun h => hs ((zg_ge hb rg_0).mp h)), if_neg hg0, if_neg hg0, zL_div ha (rg_nat hgl), zL_div hb (rg_nat hgl), zL_neg, zL_neg, kf_fitR N (rg_neg (rg_tdiv _ ha)) (rg_neg (rg_tdiv _ hb)) (by rw [di_num hb0, if_pos (by omega)]) (by rw [di_den hb0, if_pos (by omega)])]
    rfl
