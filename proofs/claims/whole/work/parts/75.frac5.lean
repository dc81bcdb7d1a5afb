/-! FRACTIONS, 5: rounding, comparing, sides -/
theorem zL_8192 : (8192 : Int64) = zL 8192 := rfl
theorem zL_2 : (2 : Int64) = zL 2 := rfl
theorem zL_4096 : (4096 : Int64) = zL 4096 := rfl
theorem rg_4096 : rg 4096 := ⟨by decide, by decide⟩
theorem xor_sign {a b : Int} (ha : rg a) (hb : rg b) (h0 : 0 < b) : (0 ≤ lg_cmp (zL a ^^^ zL b) (zL 0)) ↔ 0 ≤ a := by
  rw [lg_cmp_ge]
  have e : ∀ x : Int64, (zL 0 ≤ x) ↔ x.toBitVec.msb = false := by
    intro x
    rw [Int64.le_iff_toInt_le, zL_toInt rg_0, BitVec.msb_eq_toInt]
    show 0 ≤ x.toInt ↔ decide (x.toInt < 0) = false
    rw [decide_eq_false_iff_not]
    omega
  rw [e, Int64.toBitVec_xor, BitVec.msb_xor, BitVec.msb_eq_toInt, BitVec.msb_eq_toInt]
  show (decide ((zL a).toInt < 0) ^^ decide ((zL b).toInt < 0)) = false ↔ _
  rw [zL_toInt ha, zL_toInt hb, decide_eq_false (p := b < 0) (by omega), Bool.xor_false, decide_eq_false_iff_not]
  omega
theorem fl_neg {n d : Int} (hd : 0 < d) (h : n.tmod d < 0) : n / d = n.tdiv d - 1 := by
  have h1 := Int.tmod_add_mul_tdiv n d
  have h2 := Int.emod_add_mul_ediv n d
  have h3 := Int.emod_nonneg n (Int.ne_of_gt hd)
  have h4 := Int.emod_lt_of_pos n hd
  have h5 := Int.lt_tmod_of_pos n hd
  have h6 : d * (n / d - (n.tdiv d - 1)) = d * (n / d) - d * n.tdiv d + d := by
    rw [Int.mul_sub, Int.mul_sub, Int.mul_one]
    omega
  have h7 : -d < d * (n / d - (n.tdiv d - 1)) := by omega
  have h8 : d * (n / d - (n.tdiv d - 1)) < d := by omega
  have h9 : n / d - (n.tdiv d - 1) < 1 := by
    refine Classical.byContradiction fun q => ?_
    have : d * 1 ≤ d * (n / d - (n.tdiv d - 1)) := Int.mul_le_mul_of_nonneg_left (by omega) (by omega)
    omega
  have h10 : -1 < n / d - (n.tdiv d - 1) := by
    refine Classical.byContradiction fun q => ?_
    have : d * (n / d - (n.tdiv d - 1)) ≤ d * (-1) := Int.mul_le_mul_of_nonneg_left (by omega) (by omega)
    omega
  omega
theorem fl_pos {n d : Int} (hd : 0 < d) (h : 0 ≤ n.tmod d) : n / d = n.tdiv d := by
  have h1 := Int.tmod_add_mul_tdiv n d
  have h2 := Int.emod_add_mul_ediv n d
  have h3 := Int.emod_nonneg n (Int.ne_of_gt hd)
  have h4 := Int.emod_lt_of_pos n hd
  have h5 := Int.tmod_lt_of_pos n hd
  have h6 : d * (n / d - n.tdiv d) = d * (n / d) - d * n.tdiv d := Int.mul_sub _ _ _
  have h9 : n / d - n.tdiv d < 1 := by
    refine Classical.byContradiction fun q => ?_
    have : d * 1 ≤ d * (n / d - n.tdiv d) := Int.mul_le_mul_of_nonneg_left (by omega) (by omega)
    omega
  have h10 : -1 < n / d - n.tdiv d := by
    refine Classical.byContradiction fun q => ?_
    have : d * (n / d - n.tdiv d) ≤ d * (-1) := Int.mul_le_mul_of_nonneg_left (by omega) (by omega)
    omega
  omega
theorem tmod_sign {n d : Int} (hd : 0 < d) : (n.tmod d < 0 ∧ ¬ 0 ≤ n ∧ ¬ n.tdiv d * d = n) ∨ (0 ≤ n.tmod d ∧ (0 ≤ n ∨ n.tdiv d * d = n)) := by
  have h1 := Int.tmod_add_mul_tdiv n d
  have e : n.tdiv d * d = d * n.tdiv d := Int.mul_comm _ _
  by_cases h0 : 0 ≤ n
  · exact Or.inr ⟨Int.tmod_nonneg _ h0, Or.inl h0⟩
  · by_cases hm : 0 ≤ n.tmod d
    · have h2 : 0 ≤ (-n).tmod d := Int.tmod_nonneg _ (by omega)
      rw [Int.neg_tmod] at h2
      exact Or.inr ⟨hm, Or.inr (by omega)⟩
    · exact Or.inl ⟨by omega, h0, by omega⟩
theorem rg_ediv {n d : Int} (hn : rg n) (hd : 0 < d) : rg (n / d) := by
  by_cases h : 0 ≤ n.tmod d
  · rw [fl_pos hd h]
    exact rg_tdiv _ hn
  · have h1 : n.tmod d < 0 := by omega
    have h2 := Int.natAbs_tdiv_le_natAbs n d
    have h3 := hn.1; have h4 := hn.2
    have h5 := Int.tmod_add_mul_tdiv n d
    have h6 := fl_neg hd h1
    have h7 : n.tdiv d * d = d * n.tdiv d := Int.mul_comm _ _
    have h8 : n < n.tdiv d := by
      refine Classical.byContradiction fun q => ?_
      have h9 : ¬ 0 ≤ n := fun h0 => by
        have := Int.tmod_nonneg d h0
        omega
      have : d * n.tdiv d ≤ 1 * n.tdiv d := Int.mul_le_mul_of_nonpos_right (by omega) (by omega)
      omega
    constructor <;> omega
theorem kf_floorDiv (N : Nat) {n d : Int} (hn : rg n) (hd : rg d) (h : 0 < d) : kf_Jm_floorDiv N (zL n) (zL d) = some (zL (n / d)) := by
  unfold kf_Jm_floorDiv kb_Jm_floorDiv_0 kb_Jm_floorDiv_27
  have hd0 : ¬ zL d = zL 0 := fun q => by
    have := (zL_eq hd rg_0).mp q
    omega
  have h2 : rg (n.tdiv d * d) := by
    have h5 := Int.tmod_add_mul_tdiv n d
    have h7 : n.tdiv d * d = d * n.tdiv d := Int.mul_comm _ _
    have h3 := hn.1; have h4 := hn.2
    by_cases h0 : 0 ≤ n
    · have := Int.tmod_nonneg d h0
      have h8 : 0 ≤ d * n.tdiv d := Int.mul_nonneg (by omega) (Int.tdiv_nonneg h0 (by omega))
      constructor <;> omega
    · have h8 : 0 ≤ (-n).tmod d := Int.tmod_nonneg _ (by omega)
      rw [Int.neg_tmod] at h8
      have h9 : 0 ≤ d * (-n).tdiv d := Int.mul_nonneg (by omega) (Int.tdiv_nonneg (by omega) (by omega))
      rw [Int.neg_tdiv, Int.mul_neg] at h9
      constructor <;> omega
  rw [zL_0, if_neg hd0, zL_div hn hd, zL_mul, zL_1, zL_sub]
  rcases tmod_sign (n := n) h with ⟨g1, g2, g3⟩ | ⟨g1, g2⟩
  · rw [if_neg (fun q => g2 ((xor_sign hn hd h).mp q)), if_neg (fun q => g3 ((zg_eq h2 hn).mp q)), fl_neg h g1]
  · rw [fl_pos h g1]
    by_cases g3 : 0 ≤ n
    · rw [if_pos ((xor_sign hn hd h).mpr g3)]
    · rw [if_neg (fun q => g3 ((xor_sign hn hd h).mp q)), if_pos ((zg_eq h2 hn).mpr (g2.resolve_left g3))]
theorem kf_rounded {N : Nat} (hN : 100 ≤ N) {x : Option Rat} (hx : fG x) : kf_Fr_rounded N (en x) = some (en (frnd x)) := by
  unfold kf_Fr_rounded kb_Fr_rounded_0
  simp only [kf_bottomOf N hx, kf_topOf N hx, Option.bind_some]
  have h1 := fG_P hx; have h2 := fG_Q hx
  rw [zL_0]
  cases x with
  | none =>
    rw [if_pos (show lg_cmp (zL (pQ none)) (zL 0) = 0 from (zg_eq rg_0 rg_0).mpr rfl)]
    rfl
  | some r =>
    have eP : pP (some r) = r.num := rfl
    have eQ : pQ (some r) = r.den := rfl
    have hd := r.den_pos
    rw [eP] at h1 ⊢
    rw [eQ] at h2 ⊢
    have g1 : rg (8192 * r.num + r.den) := ⟨by omega, by omega⟩
    have g2 : rg (2 * (r.den : Int)) := ⟨by omega, by omega⟩
    rw [if_neg (fun h => by have := (zg_eq (rg_nat (by omega)) rg_0).mp h; omega), zL_8192, zL_2, zL_4096, zL_mul, zL_mul, zL_add, kf_floorDiv N g1 g2 (by omega)]
    simp only [Option.bind_some]
    rw [kf_of hN (rg_ediv g1 (by omega)) rg_4096]
    rfl
theorem kPQ_kPQ (σ : kS) (f g : Option Rat) : kPQ (kPQ σ f) g = kPQ σ g := kL_4 _ _ _ _ _
theorem kPQ_p (σ : kS) (f : Option Rat) : (kPQ σ f).2.1 0 = zL (pP f) := rfl
theorem kPQ_q (σ : kS) (f : Option Rat) : (kPQ σ f).2.1 1 = zL (pQ f) := rfl
theorem kp_round {N : Nat} (hN : 100 ≤ N) (σ : kS) {x : Option Rat} (hx : fG x) : kf_PM_round N (kPQ σ x) = some ((), kPQ σ (frnd x)) := by
  unfold kf_PM_round kb_PM_round_0 kb_PM_round_52
  rw [kPQ_p, kPQ_q]
  have h1 := fG_P hx; have h2 := fG_Q hx
  rw [zL_0]
  cases x with
  | none =>
    rw [if_pos (show lg_cmp (zL (pQ none)) (zL 0) = 0 from (zg_eq rg_0 rg_0).mpr rfl)]
    rfl
  | some r =>
    have eP : pP (some r) = r.num := rfl
    have eQ : pQ (some r) = r.den := rfl
    have hd := r.den_pos
    rw [eP] at h1 ⊢
    rw [eQ] at h2 ⊢
    have g1 : rg (8192 * r.num + r.den) := ⟨by omega, by omega⟩
    have g2 : rg (2 * (r.den : Int)) := ⟨by omega, by omega⟩
    have hd0 : ¬ zL (2 * (r.den : Int)) = zL 0 := fun q => by
      have := (zL_eq g2 rg_0).mp q
      omega
    rw [if_neg (fun h => by have := (zg_eq (rg_nat (by omega)) rg_0).mp h; omega), zL_8192, zL_2, zL_4096, zL_mul, zL_mul, zL_add, if_neg hd0, if_neg hd0, zL_rem g1 g2, zL_div g1 g2, zL_1, zL_sub]
    have ef : frnd (some r) = fo ((8192 * r.num + r.den) / (2 * r.den)) 4096 := rfl
    rw [ef]
    have gm : rg ((8192 * r.num + r.den).tmod (2 * r.den)) := by
      have k1 := Int.tmod_lt_of_pos (8192 * r.num + r.den) (show (0 : Int) < 2 * r.den by omega)
      have k2 := Int.lt_tmod_of_pos (8192 * r.num + r.den) (show (0 : Int) < 2 * r.den by omega)
      exact ⟨by omega, by omega⟩
    by_cases h : 0 ≤ (8192 * r.num + (r.den : Int)).tmod (2 * r.den)
    · rw [if_pos ((zg_ge gm rg_0).mpr h), kp_least hN _ (rg_tdiv _ g1) rg_4096, fl_pos (by omega) h]
      show some ((), kPQ (kPQ σ _) _) = _
      rw [kPQ_kPQ]
    · have gx : rg ((8192 * r.num + (r.den : Int)).tdiv (2 * r.den) - 1) := by
        rw [← fl_neg (by omega) (by omega)]
        exact rg_ediv g1 (by omega)
      rw [if_neg (fun q => h ((zg_ge gm rg_0).mp q)), kp_least hN _ gx rg_4096, fl_neg (by omega) (by omega)]
      show some ((), kPQ (kPQ σ _) _) = _
      rw [kPQ_kPQ]
/-- above, of two fractions (0 / 0 stands for none of them) -/
abbrev fab (x y : Option Rat) : Prop := pP y * pQ x < pP x * pQ y
def bI (c : Prop) [Decidable c] : Int32 := if c then 1 else 0
theorem bI_ok (c : Prop) [Decidable c] : bI c = 0 ∨ bI c = 1 := by
  unfold bI
  split
  · exact Or.inr rfl
  · exact Or.inl rfl
theorem kp_isAbove (N : Nat) {x y : Option Rat} (hx : fG x) (hy : fG y) : kf_PM_isAbove N (zL (pP x)) (zL (pQ x)) (zL (pP y)) (zL (pQ y)) = some (bI (fab x y)) := by
  unfold kf_PM_isAbove kb_PM_isAbove_0 kb_PM_isAbove_17 bI fab
  rw [zL_mul, zL_mul]
  by_cases h : pP y * pQ x < pP x * pQ y
  · rw [if_neg (fun q => by have := (zg_le (rg_mul (fG_Pn hx) (fG_Qn hy)) (rg_mul (fG_Pn hy) (fG_Qn hx))).mp q; omega), if_pos h]
    rfl
  · rw [if_pos ((zg_le (rg_mul (fG_Pn hx) (fG_Qn hy)) (rg_mul (fG_Pn hy) (fG_Qn hx))).mpr (by omega)), if_neg h]
    rfl
theorem kf_compare (N : Nat) {x y : Option Rat} (hx : fG x) (hy : fG y) : kf_Fr_compare N (en x) (en y) = some (if fab x y then 1 else if fab y x then -1 else 0) := by
  unfold kf_Fr_compare kb_Fr_compare_0 fab
  simp only [kf_bottomOf N hx, kf_bottomOf N hy, kf_topOf N hx, kf_topOf N hy, Option.bind_some]
  rw [zL_mul, zL_mul]
  have g1 := rg_mul (fG_Pn hx) (fG_Qn hy)
  have g2 := rg_mul (fG_Pn hy) (fG_Qn hx)
  unfold kf_Jl_compare kb_Jl_compare_0 kb_Jl_compare_21
  by_cases h : pP y * pQ x < pP x * pQ y
  · rw [if_pos ((zg_ge g1 g2).mpr (by omega)), if_neg (fun q => by have := (zg_eq g1 g2).mp q; omega), if_pos h]
    rfl
  · rw [if_neg h]
    by_cases h2 : pP x * pQ y < pP y * pQ x
    · rw [if_neg (fun q => by have := (zg_ge g1 g2).mp q; omega), if_pos h2]
      rfl
    · rw [if_pos ((zg_ge g1 g2).mpr (by omega)), if_pos ((zg_eq g1 g2).mpr (by omega)), if_neg h2]
      rfl
def fsg (x : Option Rat) : Int32 := if 0 < pP x then 1 else if pP x < 0 then -1 else 0
theorem kf_sign (N : Nat) {x : Option Rat} (hx : fG x) : kf_Fr_sign N (en x) = some (fsg x) := by
  unfold kf_Fr_sign kb_Fr_sign_0 kb_Fr_sign_27 fsg
  simp only [kf_topOf N hx, Option.bind_some]
  rw [zL_0]
  have g := rg_pP hx
  by_cases h : 0 < pP x
  · rw [if_neg (fun q => by have := (zg_le g rg_0).mp q; omega), if_pos h]
  · rw [if_pos ((zg_le g rg_0).mpr (by omega)), if_neg h]
    by_cases h2 : pP x < 0
    · rw [if_neg (fun q => by have := (zg_ge g rg_0).mp q; omega), if_pos h2]
    · rw [if_pos ((zg_ge g rg_0).mpr (by omega)), if_neg h2]
theorem kf_sideOf (N : Nat) {x : Option Rat} (hx : fG x) (v : Int32) : kf_Fr_sideOf N (en x) v = some (if v = 0 then zL (pP x) else zL (pQ x)) := by
  unfold kf_Fr_sideOf kb_Fr_sideOf_0 kb_Fr_sideOf_15
  simp only [kf_bottomOf N hx, kf_topOf N hx, Option.bind_some]
  split <;> rfl
theorem kp_told (N : Nat) (σ : kS) (x : Option Rat) (v : Int32) : kf_PM_told N (kPQ σ x) v = some (if v = 0 then zL (pP x) else zL (pQ x), kPQ σ x) := by
  unfold kf_PM_told kb_PM_told_0 kb_PM_told_15
  rw [kPQ_p, kPQ_q]
  split <;> rfl
