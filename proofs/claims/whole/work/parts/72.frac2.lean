/-! FRACTIONS, 2: what they are: rationals with room, or none (WILD); the reference's p and q, the class's one long -/
def fx (r : Rat) : Option Rat := if r.num.natAbs ≤ 2147483647 ∧ r.den ≤ 2147483647 then some r else none
def fo (a b : Int) : Option Rat := if b = 0 then none else fx (Rat.divInt a b)
def pP (f : Option Rat) : Int := match f with
  | some r => r.num
  | none => 0
def pQ (f : Option Rat) : Int := match f with
  | some r => r.den
  | none => 0
def fG (f : Option Rat) : Prop := ∀ r, f = some r → r.num.natAbs ≤ 2147483647 ∧ r.den ≤ 2147483647
theorem fG_fx (r : Rat) : fG (fx r) := by
  intro q h
  unfold fx at h
  split at h
  · cases h; assumption
  · cases h
theorem fG_fo (a b : Int) : fG (fo a b) := by
  unfold fo
  split
  · intro r h; cases h
  · exact fG_fx _
theorem fG_none : fG none := fun r h => by cases h
def kPQ (σ : kS) (f : Option Rat) : kS := kL (kL σ 0 (zL (pP f))) 1 (zL (pQ f))
theorem kL_4 (σ : kS) (x y u v : Int64) : kL (kL (kL (kL σ 0 x) 1 y) 0 u) 1 v = kL (kL σ 0 u) 1 v := by
  unfold kL
  simp only [Prod.mk.injEq, true_and, and_true]
  funext j
  unfold vp_updL
  by_cases h1 : j = 1
  · simp [h1]
  · by_cases h0 : j = 0
    · simp [h0]
    · simp [h0, h1]
theorem di_num {a b : Int} (hb : b ≠ 0) : (Rat.divInt a b).num = if b < 0 then -(a.tdiv ((Nat.gcd a.natAbs b.natAbs : Nat) : Int)) else a.tdiv ((Nat.gcd a.natAbs b.natAbs : Nat) : Int) := by
  have hg : Int.gcd b a = Nat.gcd a.natAbs b.natAbs := Nat.gcd_comm _ _
  have hd : ((Nat.gcd a.natAbs b.natAbs : Nat) : Int) ∣ a := Int.ofNat_dvd_left.mpr (Nat.gcd_dvd_left _ _)
  rw [Rat.num_divInt, hg, Int.tdiv_eq_ediv_of_dvd hd]
  by_cases h : b < 0
  · rw [if_pos h, Int.sign_eq_neg_one_of_neg h, Int.neg_mul, Int.one_mul, Int.neg_ediv_of_dvd hd]
  · rw [if_neg h, Int.sign_eq_one_of_pos (by omega), Int.one_mul]
theorem di_den {a b : Int} (hb : b ≠ 0) : ((Rat.divInt a b).den : Int) = if b < 0 then -(b.tdiv ((Nat.gcd a.natAbs b.natAbs : Nat) : Int)) else b.tdiv ((Nat.gcd a.natAbs b.natAbs : Nat) : Int) := by
  have hg : Int.gcd b a = Nat.gcd a.natAbs b.natAbs := Nat.gcd_comm _ _
  have hd : ((Nat.gcd a.natAbs b.natAbs : Nat) : Int) ∣ b := Int.ofNat_dvd_left.mpr (Nat.gcd_dvd_right _ _)
  rw [Rat.den_divInt, if_neg hb, hg, Int.tdiv_eq_ediv_of_dvd hd, Int.natCast_ediv]
  by_cases h : b < 0
  · rw [if_pos h, ← Int.neg_ediv_of_dvd hd]
    congr 1
    omega
  · rw [if_neg h]
    congr 1
    omega
theorem rg_tdiv {a : Int} (b : Int) (h : rg a) : rg (a.tdiv b) := by
  have := Int.natAbs_tdiv_le_natAbs a b
  have h4 := h.1; have h5 := h.2
  constructor <;> omega
theorem rg_neg {a : Int} (h : rg a) : rg (-a) := by
  have h4 := h.1; have h5 := h.2
  constructor <;> omega
theorem rg_most : rg 2147483647 := ⟨by decide, by decide⟩
theorem rg_mostn : rg (-2147483647) := ⟨by decide, by decide⟩
theorem zL_most : (2147483647 : Int64) = zL 2147483647 := rfl
theorem zL_mostn : (-2147483647 : Int64) = zL (-2147483647) := rfl
/-- the reference's end of 'least': P and Q are told, or both are 0 -/
theorem kp_end (N : Nat) (σ : kS) {p q : Int} (hp : rg p) (hq : rg q) : kb_PM_least_111 N (kL σ 0 (zL p)) (zL q) = some ((), if p.natAbs ≤ 2147483647 ∧ q ≤ 2147483647 then kL (kL σ 0 (zL p)) 1 (zL q) else kL (kL σ 0 (zL 0)) 1 (zL 0)) := by
  unfold kb_PM_least_111 kb_PM_least_147 kb_PM_least_157
  have e0 : (kL (kL σ 0 (zL p)) 1 (zL q)).2.1 0 = zL p := rfl
  have e1 : (kL (kL σ 0 (zL p)) 1 (zL q)).2.1 1 = zL q := rfl
  simp only [kk_let, e0, e1]
  rw [zL_mostn, zL_most, zL_0, kL_4]
  by_cases h1 : 2147483647 < p
  · rw [if_pos ((zg_gt hp rg_most).mpr h1), if_neg (by omega)]
  · rw [if_neg (fun h => h1 ((zg_gt hp rg_most).mp h))]
    by_cases h2 : p < -2147483647
    · rw [if_pos ((zg_lt hp rg_mostn).mpr h2), if_neg (by omega)]
    · rw [if_neg (fun h => h2 ((zg_lt hp rg_mostn).mp h))]
      by_cases h3 : q ≤ 2147483647
      · rw [if_pos ((zg_le hq rg_most).mpr h3), if_pos (by omega)]
      · rw [if_neg (fun h => h3 ((zg_le hq rg_most).mp h)), if_neg (by omega)]
theorem kp_fin {a b p q : Int} (σ : kS) (hb : b ≠ 0) (hp : (Rat.divInt a b).num = p) (hq : ((Rat.divInt a b).den : Int) = q) : (if p.natAbs ≤ 2147483647 ∧ q ≤ 2147483647 then kL (kL σ 0 (zL p)) 1 (zL q) else kL (kL σ 0 (zL 0)) 1 (zL 0)) = kPQ σ (fo a b) := by
  unfold fo
  rw [if_neg hb]
  unfold fx
  by_cases h : (Rat.divInt a b).num.natAbs ≤ 2147483647 ∧ (Rat.divInt a b).den ≤ 2147483647
  · rw [if_pos h, if_pos (by omega)]
    show _ = kL (kL σ 0 (zL (Rat.divInt a b).num)) 1 (zL ((Rat.divInt a b).den : Int))
    rw [hp, hq]
  · rw [if_neg h, if_neg (by omega)]
    rfl
/-- the reference's 'least' -/
theorem kp_least {N : Nat} (hN : 100 ≤ N) (σ : kS) {a b : Int} (ha : rg a) (hb : rg b) : kf_PM_least N σ (zL a) (zL b) = some ((), kPQ σ (fo a b)) := by
  have h1 := ha.1; have h2 := ha.2; have h3 := hb.1; have h4 := hb.2
  unfold kf_PM_least kb_PM_least_0
  by_cases hb0 : b = 0
  · subst hb0
    rw [zL_0, if_pos ((zg_eq rg_0 rg_0).mpr rfl)]
    rfl
  rw [zL_0, if_neg (fun h => hb0 ((zg_eq hb rg_0).mp h))]
  have hgp : 0 < Nat.gcd a.natAbs b.natAbs := Nat.gcd_pos_of_pos_right _ (by omega)
  have hgl := gcd_lt ha hb
  have hg0 : ¬ zL ((Nat.gcd a.natAbs b.natAbs : Nat) : Int) = zL 0 := fun h => by
    have := (zL_eq (rg_nat hgl) rg_0).mp h
    omega
  have hl0 : lg_cmp (zL 0) (zL 0) = 0 := (zg_eq rg_0 rg_0).mpr rfl
  have last : kb_PM_least_45 N 1 σ (zL a) (zL b) (zL ((Nat.gcd a.natAbs b.natAbs : Nat) : Int)) (zL 0) = some ((), kPQ σ (fo a b)) := by
    rw [kb_PM_least_45, zL_0, if_pos hl0]
    unfold kb_PM_least_89
    by_cases hs : 0 ≤ b
    · rw [if_pos ((zg_ge hb rg_0).mpr hs), if_neg hg0, zL_div ha (rg_nat hgl)]
      simp only [kk_let]
      rw [zL_0, if_pos ((zg_ge hb rg_0).mpr hs), if_neg hg0, zL_div hb (rg_nat hgl), kp_end N σ (rg_tdiv _ ha) (rg_tdiv _ hb), kp_fin σ hb0 (by rw [di_num hb0, if_neg (by omega)]) (by rw [di_den hb0, if_neg (by omega)])]
    · rw [if_neg (fun h => hs ((zg_ge hb rg_0).mp h)), if_neg hg0, zL_div ha (rg_nat hgl), zL_neg]
      simp only [kk_let]
      rw [zL_0, if_neg (fun h => hs ((zg_ge hb rg_0).mp h)), if_neg hg0, zL_div hb (rg_nat hgl), zL_neg, kp_end N σ (rg_neg (rg_tdiv _ ha)) (rg_neg (rg_tdiv _ hb)), kp_fin σ hb0 (by rw [di_num hb0, if_pos (by omega)]) (by rw [di_den hb0, if_pos (by omega)])]
  have key : ∀ u v : Nat, u < 9223372036854775808 → v < 9223372036854775808 → kb_PM_least_43 N σ (zL a) (zL b) (zL u) (zL v) = kb_PM_least_45 N 1 σ (zL a) (zL b) (zL (Nat.gcd u v)) (zL 0) := fun u v hu hv => kp_loop N σ _ _ 93 u v N (eu_93 hu hv) hu hv (by omega)
  have k2 : ∀ u : Nat, u < 9223372036854775808 → kb_PM_least_29 N σ (zL a) (zL b) (zL u) = kb_PM_least_45 N 1 σ (zL a) (zL b) (zL (Nat.gcd u b.natAbs)) (zL 0) := by
    intro u hu
    unfold kb_PM_least_29
    rw [zL_0]
    by_cases h : 0 ≤ b
    · rw [if_pos ((zg_ge hb rg_0).mpr h), ← key u b.natAbs hu (by omega), Int.natAbs_of_nonneg h]
    · rw [if_neg (fun q => h ((zg_ge hb rg_0).mp q)), zL_neg, ← key u b.natAbs hu (by omega)]
      congr 2
      omega
  rw [← last]
  by_cases h : 0 ≤ a
  · rw [if_pos ((zg_ge ha rg_0).mpr h), ← k2 a.natAbs (by omega), Int.natAbs_of_nonneg h]
  · rw [if_neg (fun q => h ((zg_ge ha rg_0).mp q)), zL_neg, ← k2 a.natAbs (by omega)]
    congr 2
    omega
