/-! THE TAPE, 5: slopes; what the class gives on from one cell -/
def ow1 (o t : Nat) (f g : Nat → Option Rat) (k : Nat) : Option Rat :=
  if o = 2 then g k else if o = 3 then finv (g k) else if o = 4 then g k else if o = 6 then finv (fnat t) else
  if o = 7 then (if wld f t = true then none else if k = grt f t then some 1 else some 0) else if o = 10 then some (-1) else
  if o = 11 then (if f k = none then none else if 0 < pP (f k) then some 1 else some 0) else
  if o = 12 then (if f k = none then none else if 0 < pP (f k) then some 1 else if pP (f k) < 0 then some (-1) else some 0) else
  if o = 13 then fadd (f k) (f k) else some 1
def ow2 (o : Nat) (f g : Nat → Option Rat) (k : Nat) : Option Rat :=
  if o = 0 then some 1 else if o = 1 then some (-1) else if o = 3 then fneg (fmul (fmul (f k) (finv (g k))) (finv (g k))) else f k
theorem fG_ow1 (o : Nat) {t : Nat} {f g : Nat → Option Rat} (ht : t ≤ 64) (hf : ∀ k, fG (f k)) (hg : ∀ k, fG (g k)) (k : Nat) : fG (ow1 o t f g k) := by
  unfold ow1
  repeat' first | exact fG_add _ _ | exact fG_none | exact hg _ | exact fG_inv (hg _) | exact fG_inv (fnat_s (by omega)).1 | exact fG_Z | exact fG_O | exact fG_M | refine fG_ite ?_ ?_
theorem fG_ow2 (o : Nat) {f g : Nat → Option Rat} (hf : ∀ k, fG (f k)) (k : Nat) : fG (ow2 o f g k) := by
  unfold ow2
  repeat' first | exact hf _ | exact fG_neg (fG_mul _ _) | exact fG_O | exact fG_M | refine fG_ite ?_ ?_
theorem fnat_0 : fnat 0 = some 0 := by decide +kernel
theorem fnat_1 : fnat 1 = some 1 := by decide +kernel
theorem kf_whole_m (N : Nat) : kf_Fr_whole N (-1) = some (en (some (-1))) := by
  unfold kf_Fr_whole kb_Fr_whole_0
  rw [show (-1 : Int32).toInt64 = zL (-1) from by decide, show (1 : Int64) = zL 1 from rfl, kf_fit N ⟨by decide, by decide⟩ rg_1, if_pos (by decide)]
  rfl
theorem xu_inj {X : tX} (ok : x_ok X) {i : Nat} (hi : i < x_n X) (ho : x_o X i = 7) {r k k' : Nat} (h : x_u X i r k = x_u X i r k') : k = k' := by
  obtain ⟨g1, g2, g3, g4⟩ := x_lt ok hi (by omega)
  have hA := sh_pos g4
  have w4 : 1 ≤ w_1 (x_o X i) (x_b X i) (x_s X (x_a X i)) (x_P X (x_a X i)) 4 := by
    rw [ho]
    show 1 ≤ st3 _ _
    unfold st3
    split
    · exact Nat.mul_pos (hA 1 (by omega)) (hA 2 (by omega))
    · split
      · exact hA 2 (by omega)
      · omega
  unfold x_u w_at at h
  generalize w_1 (x_o X i) (x_b X i) (x_s X (x_a X i)) (x_P X (x_a X i)) 4 = w at *
  have e : k * w = k' * w := by omega
  exact Nat.eq_of_mul_eq_mul_right w4 e
theorem cn_own1 {X : tX} {ρ : tR} {τ : tS} {V : tF} (h : cSt X ρ τ) (ok : x_ok X) {i : Nat} (hi : i < x_n X) {r : Nat} (hr : r < x_c X i) (hv : ∀ j, j < i → vC X V τ j) {N : Nat} (hN : 300 ≤ N) (gV : gF V) (ho : x_o X i < 16) {k : Nat} (hk : k < x_t X i) : kf_No_ownOfFirst N ρ τ i (nI (x_u X i r k)) (if x_o X i < 5 then nI (x_v X i r k) else 0) (if x_o X i = 7 then (if wld (fA X V i r) (x_t X i) = true then -1 else nI (x_u X i r (grt (fA X V i r) (x_t X i)))) else -1) = some (en (ow1 (x_o X i) (x_t X i) (fA X V i r) (fB X V i r) k), τ) := by
  have tb := xt_b ok hi ho
  obtain ⟨r1, r2, r3⟩ := (h.2.2 i hi).2.2.2.1 ho
  have op := cS_op h hi ho
  have a0 := cA_rd h ok hi hr hv ho hk
  unfold kf_No_ownOfFirst kb_No_ownOfFirst_0
  rw [r1, Option.bind_some, a0, Option.bind_some]
  by_cases h5 : x_o X i < 5
  · obtain ⟨r4, r5⟩ := (h.2.2 i hi).2.2.2.2.1 h5
    have b0 := cB_rd h ok hi hr hv h5 hk
    rw [if_pos h5, r4]
    unfold tk_opt
    simp only []
    rw [Option.bind_some, b0, Option.bind_some]
    unfold kb_No_ownOfFirst_31
    rw [op]
    obtain e | e | e | e | e : x_o X i = 0 ∨ x_o X i = 1 ∨ x_o X i = 2 ∨ x_o X i = 3 ∨ x_o X i = 4 := by omega
    · simp only [e]
      rfl
    · simp only [e]
      rfl
    · simp only [e]
      rfl
    · simp only [e]
      rw [if_neg (by decide), if_pos (by decide), kf_inverse N (gV _ _)]
      rfl
    · simp only [e]
      rfl
  · obtain ⟨r4, r5⟩ := (h.2.2 i hi).2.2.2.2.2 (by omega)
    rw [if_neg h5, r4]
    unfold tk_opt
    simp only []
    unfold kb_No_ownOfFirst_31
    rw [op]
    obtain e | e | e | e | e | e | e | e | e | e | e : x_o X i = 5 ∨ x_o X i = 6 ∨ x_o X i = 7 ∨ x_o X i = 8 ∨ x_o X i = 9 ∨ x_o X i = 10 ∨ x_o X i = 11 ∨ x_o X i = 12 ∨ x_o X i = 13 ∨ x_o X i = 14 ∨ x_o X i = 15 := by omega
    · simp only [e]
      rfl
    · rw [r3, kf_whole N (by omega)]
      simp only [e]
      rw [if_neg (by decide), if_neg (by decide), if_neg (by decide), if_neg (by decide), if_pos (by decide), Option.bind_some, kf_inverse N (fnat_s (by omega)).1]
      rfl
    · have gl := grt_lt (fA X V i r) (x_t X i) (by omega)
      have xl := xu_lt ok hi ho hr gl
      have xk := xu_lt ok hi ho hr hk
      have b64 := (xc_b ok (x_lt ok hi ho).2.1).2
      have ee : ow1 (x_o X i) (x_t X i) (fA X V i r) (fB X V i r) k = (if wld (fA X V i r) (x_t X i) = true then none else if k = grt (fA X V i r) (x_t X i) then some 1 else some 0) := by rw [e]; rfl
      rw [ee, if_pos e, e, if_neg (by decide), if_neg (by decide), if_neg (by decide), if_neg (by decide), if_neg (by decide), if_pos (by decide)]
      by_cases hw : wld (fA X V i r) (x_t X i) = true
      · rw [if_pos hw, if_pos hw, if_neg (by decide)]
        rfl
      · rw [if_neg hw, if_neg hw, if_pos (nI_pos' (by omega))]
        by_cases hg : k = grt (fA X V i r) (x_t X i)
        · rw [if_pos hg, if_pos (by rw [hg])]
          rfl
        · rw [if_neg hg, if_neg (fun q => hg (xu_inj ok hi e ((nI_eq (by omega) (by omega)).mp q)))]
          rfl
    · simp only [e]
      rfl
    · simp only [e]
      rfl
    · simp only [e]
      rfl
    · have ee : ow1 (x_o X i) (x_t X i) (fA X V i r) (fB X V i r) k = (if fA X V i r k = none then none else if 0 < pP (fA X V i r k) then some 1 else some 0) := by rw [e]; rfl
      rw [ee, e, if_neg (by decide), if_neg (by decide), if_neg (by decide), if_neg (by decide), if_neg (by decide), if_neg (by decide), if_neg (by decide), if_neg (by decide), if_neg (by decide), if_pos (by decide)]
      by_cases hn : fA X V i r k = none
      · have z : lg_cmp (en (V (x_a X i) (x_u X i r k))) 0 = 0 := (lg_en (gV _ _) fG_none).mpr hn
        have hn' : V (x_a X i) (x_u X i r k) = none := hn
        rw [if_pos z, if_pos hn, hn']
        rfl
      · have z : ¬ lg_cmp (en (V (x_a X i) (x_u X i r k))) 0 = 0 := fun q => hn ((lg_en (gV _ _) fG_none).mp q)
        rw [if_neg z, if_neg hn, kf_sign N (gV _ _), Option.bind_some]
        unfold fsg
        by_cases h1 : 0 < pP (V (x_a X i) (x_u X i r k))
        · rw [if_pos h1, if_pos h1, show kf_Jm_max N 0 1 = some (nI 1) from rfl, Option.bind_some, kf_whole N (by omega), Option.bind_some, fnat_1]
          rfl
        · rw [if_neg h1, if_neg h1]
          by_cases h2 : pP (V (x_a X i) (x_u X i r k)) < 0
          · rw [if_pos h2, show kf_Jm_max N 0 (-1) = some (nI 0) from rfl, Option.bind_some, kf_whole N (by omega), Option.bind_some, fnat_0]
            rfl
          · rw [if_neg h2, show kf_Jm_max N 0 0 = some (nI 0) from rfl, Option.bind_some, kf_whole N (by omega), Option.bind_some, fnat_0]
            rfl
    · have ee : ow1 (x_o X i) (x_t X i) (fA X V i r) (fB X V i r) k = (if fA X V i r k = none then none else if 0 < pP (fA X V i r k) then some 1 else if pP (fA X V i r k) < 0 then some (-1) else some 0) := by rw [e]; rfl
      rw [ee, e, if_neg (by decide), if_neg (by decide), if_neg (by decide), if_neg (by decide), if_neg (by decide), if_neg (by decide), if_neg (by decide), if_neg (by decide), if_neg (by decide), if_neg (by decide), if_pos (by decide)]
      by_cases hn : fA X V i r k = none
      · have z : lg_cmp (en (V (x_a X i) (x_u X i r k))) 0 = 0 := (lg_en (gV _ _) fG_none).mpr hn
        have hn' : V (x_a X i) (x_u X i r k) = none := hn
        rw [if_pos z, if_pos hn, hn']
        rfl
      · have z : ¬ lg_cmp (en (V (x_a X i) (x_u X i r k))) 0 = 0 := fun q => hn ((lg_en (gV _ _) fG_none).mp q)
        rw [if_neg z, if_neg hn, kf_sign N (gV _ _), Option.bind_some]
        unfold fsg
        by_cases h1 : 0 < pP (V (x_a X i) (x_u X i r k))
        · rw [if_pos h1, if_pos h1, show (1 : Int32) = nI 1 from rfl, kf_whole N (by omega), Option.bind_some, fnat_1]
          rfl
        · rw [if_neg h1, if_neg h1]
          by_cases h2 : pP (V (x_a X i) (x_u X i r k)) < 0
          · rw [if_pos h2, if_pos h2, kf_whole_m N, Option.bind_some]
            rfl
          · rw [if_neg h2, if_neg h2, show (0 : Int32) = nI 0 from rfl, kf_whole N (by omega), Option.bind_some, fnat_0]
            rfl
    · rw [kf_add (by omega) (gV _ _) (gV _ _)]
      simp only [e]
      rfl
    · simp only [e]
      rfl
    · simp only [e]
      rfl
theorem cn_own2 {X : tX} {ρ : tR} {τ : tS} {V : tF} (h : cSt X ρ τ) (ok : x_ok X) {i : Nat} (hi : i < x_n X) {r : Nat} (hr : r < x_c X i) (hv : ∀ j, j < i → vC X V τ j) {N : Nat} (hN : 300 ≤ N) (gV : gF V) (h5 : x_o X i < 5) {k : Nat} (hk : k < x_t X i) : kf_No_ownOfSecond N ρ τ i (nI (x_u X i r k)) (nI (x_v X i r k)) = some (en (ow2 (x_o X i) (fA X V i r) (fB X V i r) k), τ) := by
  obtain ⟨r1, r2, r3⟩ := (h.2.2 i hi).2.2.2.1 (by omega)
  have op := cS_op h hi (by omega)
  have a0 := cA_rd h ok hi hr hv (by omega) hk
  obtain ⟨r4, r5⟩ := (h.2.2 i hi).2.2.2.2.1 h5
  have b0 := cB_rd h ok hi hr hv h5 hk
  unfold kf_No_ownOfSecond kb_No_ownOfSecond_0
  rw [r1, Option.bind_some, a0, Option.bind_some, r4]
  unfold tk_opt
  simp only []
  rw [Option.bind_some, b0, Option.bind_some]
  unfold kb_No_ownOfSecond_30
  rw [op]
  obtain e | e | e | e | e : x_o X i = 0 ∨ x_o X i = 1 ∨ x_o X i = 2 ∨ x_o X i = 3 ∨ x_o X i = 4 := by omega
  · simp only [e]
    rfl
  · simp only [e]
    rfl
  · simp only [e]
    rfl
  · simp only [e]
    rw [if_neg (by decide), if_neg (by decide), if_neg (by decide), if_pos (by decide), kf_inverse N (gV _ _), Option.bind_some, kf_times (by omega) (gV _ _) (fG_inv (gV _ _)), Option.bind_some, kf_times (by omega) (fG_mul _ _) (fG_inv (gV _ _)), Option.bind_some, kf_minus N (fG_mul _ _)]
    rfl
  · simp only [e]
    rfl
