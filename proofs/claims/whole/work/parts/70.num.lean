/-! NUMBERS: longs by their integers -/
def zL (z : Int) : Int64 := Int64.ofInt z
def rg (z : Int) : Prop := -9223372036854775808 < z ∧ z < 9223372036854775808
theorem zL_self (x : Int64) : zL x.toInt = x := Int64.ofInt_toInt x
theorem zL_toInt {z : Int} (h : rg z) : (zL z).toInt = z := Int64.toInt_ofInt_of_le (Int.le_of_lt h.1) h.2
theorem zL_add (a b : Int) : zL a + zL b = zL (a + b) := (Int64.ofInt_add a b).symm
theorem zL_sub (a b : Int) : zL a - zL b = zL (a - b) := (Int64.ofInt_sub a b).symm
theorem zL_mul (a b : Int) : zL a * zL b = zL (a * b) := (Int64.ofInt_mul a b).symm
theorem zL_neg (a : Int) : -zL a = zL (-a) := (Int64.ofInt_neg a).symm
theorem zL_0 : (0 : Int64) = zL 0 := rfl
theorem zL_1 : (1 : Int64) = zL 1 := rfl
theorem zL_eq {a b : Int} (ha : rg a) (hb : rg b) : zL a = zL b ↔ a = b := by
  rw [← Int64.toInt_inj, zL_toInt ha, zL_toInt hb]
theorem zL_lt {a b : Int} (ha : rg a) (hb : rg b) : zL a < zL b ↔ a < b := by
  rw [Int64.lt_iff_toInt_lt, zL_toInt ha, zL_toInt hb]
theorem zL_le {a b : Int} (ha : rg a) (hb : rg b) : zL a ≤ zL b ↔ a ≤ b := by
  rw [Int64.le_iff_toInt_le, zL_toInt ha, zL_toInt hb]
theorem rg_0 : rg 0 := ⟨by decide, by decide⟩
theorem rg_1 : rg 1 := ⟨by decide, by decide⟩
theorem zL_div {a b : Int} (ha : rg a) (hb : rg b) : zL a / zL b = zL (a.tdiv b) := by
  apply Int64.toInt_inj.mp
  have h1 : zL a ≠ Int64.minValue := fun e => by
    have := congrArg Int64.toInt e
    rw [zL_toInt ha] at this
    have h2 : Int64.minValue.toInt = -9223372036854775808 := by decide
    rw [h2] at this
    have := ha.1
    omega
  have h3 : rg (a.tdiv b) := by
    have := Int.natAbs_tdiv_le_natAbs a b
    have h4 := ha.1; have h5 := ha.2
    constructor <;> omega
  rw [Int64.toInt_div_of_ne_left _ _ h1, zL_toInt ha, zL_toInt hb, zL_toInt h3]
theorem zL_rem {a b : Int} (ha : rg a) (hb : rg b) : zL a - zL a / zL b * zL b = zL (a.tmod b) := by
  rw [zL_div ha hb, zL_mul, zL_sub]
  have h := Int.tmod_add_mul_tdiv a b
  congr 1
  have e : a.tdiv b * b = b * a.tdiv b := Int.mul_comm _ _
  omega
theorem lg_lt0 (x y : Int64) : (lg_cmp x y < 0) ↔ x < y := by
  have h := lg_cmp_ge x y
  rw [← Int64.not_le, ← h, ← Int32.not_le]
theorem lg_eq0 (x y : Int64) : (lg_cmp x y = 0) ↔ x = y := mj_lg_eq x y
theorem lg_gt0 (x y : Int64) : (0 < lg_cmp x y) ↔ y < x := by
  have h1 := lg_cmp_ge x y
  have h2 := mj_lg_eq x y
  rw [Int64.lt_iff_le_and_ne, ← h1]
  constructor
  · intro h
    exact ⟨Int32.le_of_lt h, fun e => by rw [h2.mpr e.symm] at h; exact absurd h (by decide)⟩
  · intro h
    exact Int32.lt_of_le_of_ne h.1 (fun e => h.2 (h2.mp e.symm).symm)
theorem lg_le0 (x y : Int64) : (lg_cmp x y ≤ 0) ↔ x ≤ y := by
  rw [← Int32.not_lt, lg_gt0, Int64.not_lt]
theorem zg_lt {a b : Int} (ha : rg a) (hb : rg b) : (lg_cmp (zL a) (zL b) < 0) ↔ a < b := (lg_lt0 _ _).trans (zL_lt ha hb)
theorem zg_gt {a b : Int} (ha : rg a) (hb : rg b) : (0 < lg_cmp (zL a) (zL b)) ↔ b < a := (lg_gt0 _ _).trans (zL_lt hb ha)
theorem zg_le {a b : Int} (ha : rg a) (hb : rg b) : (lg_cmp (zL a) (zL b) ≤ 0) ↔ a ≤ b := (lg_le0 _ _).trans (zL_le ha hb)
theorem zg_ge {a b : Int} (ha : rg a) (hb : rg b) : (0 ≤ lg_cmp (zL a) (zL b)) ↔ b ≤ a := (lg_cmp_ge _ _).trans (zL_le hb ha)
theorem zg_eq {a b : Int} (ha : rg a) (hb : rg b) : (lg_cmp (zL a) (zL b) = 0) ↔ a = b := (lg_eq0 _ _).trans (zL_eq ha hb)
/-! Euclid's turns: Fibonacci's numbers -/
def eu_E : Nat → Nat → Nat → Prop
  | 0, _, b => b = 0
  | k + 1, a, b => b = 0 ∨ eu_E k b (a % b)
def eu_F : Nat → Nat × Nat
  | 0 => (0, 1)
  | k + 1 => ((eu_F k).2, (eu_F k).1 + (eu_F k).2)
theorem eu_lame : ∀ (k a b : Nat), b ≤ a → ¬ eu_E k a b → (eu_F (k + 1)).1 ≤ b ∧ (eu_F (k + 1)).2 ≤ a
  | 0, a, b, hab, h => by
    have : ¬ b = 0 := h
    show 1 ≤ b ∧ 1 ≤ a
    omega
  | k + 1, a, b, hab, h => by
    have h1 : ¬ b = 0 := fun e => h (Or.inl e)
    have h2 : ¬ eu_E k b (a % b) := fun e => h (Or.inr e)
    have hr : a % b < b := Nat.mod_lt _ (by omega)
    obtain ⟨g1, g2⟩ := eu_lame k b (a % b) (Nat.le_of_lt hr) h2
    refine ⟨g2, ?_⟩
    show (eu_F (k + 1)).1 + (eu_F (k + 1)).2 ≤ a
    have hd := Nat.div_add_mod a b
    have hq : 1 ≤ a / b := (Nat.one_le_div_iff (by omega)).mpr hab
    have : b * 1 ≤ b * (a / b) := Nat.mul_le_mul_left b hq
    omega
theorem eu_big : 9223372036854775808 < (eu_F 93).1 := by decide +kernel
theorem eu_92 {a b : Nat} (hab : b ≤ a) (hb : b < 9223372036854775808) : eu_E 92 a b := by
  refine Classical.byContradiction fun h => ?_
  have h1 : (eu_F 93).1 ≤ b := (eu_lame 92 a b hab h).1
  have h2 := eu_big
  omega
theorem eu_up : ∀ (k a b : Nat), eu_E k a b → eu_E (k + 1) a b
  | 0, a, b, h => Or.inl h
  | k + 1, a, b, h => h.elim Or.inl (fun g => Or.inr (eu_up k b (a % b) g))
theorem eu_93 {a b : Nat} (ha : a < 9223372036854775808) (hb : b < 9223372036854775808) : eu_E 93 a b := by
  by_cases hab : b ≤ a
  · exact eu_up 92 a b (eu_92 hab hb)
  · have : a % b = a := Nat.mod_eq_of_lt (by omega)
    exact Or.inr (by rw [this]; exact eu_92 (by omega) ha)
