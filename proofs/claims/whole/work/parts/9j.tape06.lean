/-! THE TAPE, 6: the sums of slopes -/
def fup (S : tF) (j c : Nat) (x : Option Rat) : tF := fun i d => if i = j ∧ d = c then x else S i d
theorem gF_up {S : tF} (h : gF S) (j c : Nat) {x : Option Rat} (hx : fG x) : gF (fup S j c x) := fun i d => fG_ite hx (h i d)
/-- what term k of cell r of node i gives on, y being its own sum -/
def gv1 (X : tX) (V : tF) (i r : Nat) (y : Option Rat) (k : Nat) (S : tF) : tF := fup S (x_a X i) (x_u X i r k) (fadd (S (x_a X i) (x_u X i r k)) (fmul y (ow1 (x_o X i) (x_t X i) (fA X V i r) (fB X V i r) k)))
def gv2 (X : tX) (V : tF) (i r : Nat) (y : Option Rat) (k : Nat) (S : tF) : tF := if x_o X i < 5 then fup S (x_b X i) (x_v X i r k) (fadd (S (x_b X i) (x_v X i r k)) (fmul y (ow2 (x_o X i) (fA X V i r) (fB X V i r) k))) else S
def gvs (X : tX) (V : tF) (i r : Nat) (y : Option Rat) (S : tF) : Nat → tF
  | 0 => S
  | k + 1 => gv2 X V i r y k (gv1 X V i r y k (gvs X V i r y S k))
def gcl (X : tX) (V : tF) (i r : Nat) (S : tF) : tF := if S i r = some 0 then S else gvs X V i r (S i r) S (x_t X i)
def gnd (X : tX) (V : tF) (i : Nat) (S : tF) : Nat → tF
  | 0 => S
  | r + 1 => gcl X V i r (gnd X V i S r)
/-- all nodes from i down, d of them -/
def gsl (X : tX) (V : tF) : Nat → Nat → tF → tF
  | 0, _, S => S
  | d + 1, i, S => gsl X V d (i - 1) (if x_o X i < 16 then gnd X V i S (x_c X i) else S)
theorem gF_gv1 {X : tX} {V S : tF} {i r k : Nat} {y : Option Rat} (h : gF S) : gF (gv1 X V i r y k S) := gF_up h _ _ (fG_add _ _)
theorem gF_gv2 {X : tX} {V S : tF} {i r k : Nat} {y : Option Rat} (h : gF S) : gF (gv2 X V i r y k S) := by
  unfold gv2
  split
  · exact gF_up h _ _ (fG_add _ _)
  · exact h
theorem gF_gvs {X : tX} {V S : tF} {i r : Nat} {y : Option Rat} (h : gF S) : ∀ k, gF (gvs X V i r y S k)
  | 0 => h
  | k + 1 => gF_gv2 (gF_gv1 (gF_gvs h k))
theorem gF_gcl {X : tX} {V S : tF} {i r : Nat} (h : gF S) : gF (gcl X V i r S) := by
  unfold gcl
  split
  · exact h
  · exact gF_gvs h _
theorem gF_gnd {X : tX} {V S : tF} {i : Nat} (h : gF S) : ∀ r, gF (gnd X V i S r)
  | 0 => h
  | r + 1 => gF_gcl (gF_gnd h r)
theorem gF_gsl {X : tX} {V : tF} : ∀ (d i : Nat) {S : tF}, gF S → gF (gsl X V d i S)
  | 0, _, _, h => h
  | d + 1, i, S, h => by
    unfold gsl
    apply gF_gsl
    split
    · exact gF_gnd h _
    · exact h
/-- node i holds the sums S -/
def sC (X : tX) (S : tF) (τ : tS) : Prop := ∀ j, j < x_n X → ∀ c, c < x_c X j → τ.2.2.2.2 j 10 c = en (S j c)
theorem sC_up {X : tX} {S : tF} {τ : tS} (h : sC X S τ) (j c : Nat) (x : Option Rat) : sC X (fup S j c x) (tV τ j 10 c (en x)) := by
  intro j' hj c' hc
  rw [tV_5]
  unfold fup
  by_cases e : j' = j ∧ c' = c
  · rw [if_pos ⟨e.1, rfl, e.2⟩, if_pos e]
  · rw [if_neg (fun w => e ⟨w.1, w.2.2⟩), if_neg e]
    exact h j' hj c' hc
theorem vC_10 {X : tX} {V : tF} {τ : tS} {i : Nat} (h : vC X V τ i) (j c : Nat) (x : Int64) : vC X V (tV τ j 10 c x) i := by
  intro c' hc
  rw [tV_ne _ _ _ _ _ (fun w => absurd w.2 (by decide))]
  exact h c' hc
theorem tk_opt_s {γ α : Type} (j : γ) (A : Option α) (g : γ → Option α) : tk_opt (some j) A g = g j := rfl
theorem tk_opt_n {γ α : Type} (A : Option α) (g : γ → Option α) : tk_opt none A g = A := rfl
theorem kk_letE {α β : Type} (x : α) (f : α → β) : kk_let x f = f x := rfl
theorem cn_gvs {X : tX} {ρ : tR} {V : tF} (ok : x_ok X) {i : Nat} (hi : i < x_n X) {r : Nat} (hr : r < x_c X i) {N : Nat} (hN : 300 ≤ N) (gV : gF V) (ho : x_o X i < 16) {y : Option Rat} (hy : fG y) : ∀ d k fu τ S, d + k = x_t X i → d < fu → cSt X ρ τ → (∀ j, j < i → vC X V τ j) → gF S → sC X (gvs X V i r y S k) τ →
    ∃ τ', kb_No_giveCell_39 N ρ fu τ i (nI (x_u X i r 0)) (if x_o X i < 5 then nI (x_v X i r 0) else 0) (en y) (if x_o X i = 7 then (if wld (fA X V i r) (x_t X i) = true then -1 else nI (x_u X i r (grt (fA X V i r) (x_t X i)))) else -1) (nI k) = some ((), τ') ∧ tsm τ τ' ∧ (∀ j, τ'.2.2.2.2 j 9 = τ.2.2.2.2 j 9) ∧ sC X (gvs X V i r y S (x_t X i)) τ' := by
  have tb := xt_b ok hi ho
  intro d
  induction d with
  | zero =>
    intro k fu τ S hd hf hc hv gS hs
    obtain ⟨f', rfl⟩ : ∃ f', fu = f' + 1 := ⟨fu - 1, by omega⟩
    have : k = x_t X i := by omega
    subst this
    obtain ⟨r1, r2, r3⟩ := (hc.2.2 i hi).2.2.2.1 ho
    refine ⟨τ, ?_, tsm_refl _, fun _ => rfl, hs⟩
    rw [kb_No_giveCell_39, r3, if_pos (Int32.le_refl _)]
  | succ d ih =>
    intro k fu τ S hd hf hc hv gS hs
    obtain ⟨f', rfl⟩ : ∃ f', fu = f' + 1 := ⟨fu - 1, by omega⟩
    have hk : k < x_t X i := by omega
    obtain ⟨r1, r2, r3⟩ := (hc.2.2 i hi).2.2.2.1 ho
    obtain ⟨g1, g2, g3, g4⟩ := x_lt ok hi ho
    have la := xu_lt ok hi ho hr hk
    have ba := (xc_b ok g2).2
    have gA : ∀ k, fG (fA X V i r k) := fun k => gV _ _
    have gB : ∀ k, fG (fB X V i r k) := fun k => gV _ _
    have gk := gF_gvs (X := X) (V := V) (i := i) (r := r) (y := y) gS k
    have rdA : mj_tabL (τ.2.2.2.2 (x_a X i) 10) (t_len ρ (x_a X i)) (nI (x_u X i r k)) = some (en (gvs X V i r y S k (x_a X i) (x_u X i r k))) := by
      rw [cS_len hc ok g2, mj_tabL_nI la (by omega), hs _ g2 _ la]
    have o1 := cn_own1 hc ok hi hr hv hN gV ho hk
    have s1 : sC X (gv1 X V i r y k (gvs X V i r y S k)) (tV τ (x_a X i) 10 (x_u X i r k) (en (fadd (gvs X V i r y S k (x_a X i) (x_u X i r k)) (fmul y (ow1 (x_o X i) (x_t X i) (fA X V i r) (fB X V i r) k))))) := sC_up hs _ _ _
    generalize hτ1 : tV τ (x_a X i) 10 (x_u X i r k) (en (fadd (gvs X V i r y S k (x_a X i) (x_u X i r k)) (fmul y (ow1 (x_o X i) (x_t X i) (fA X V i r) (fB X V i r) k)))) = τ1 at s1
    have m1 : tsm τ τ1 := by rw [← hτ1]; exact tsm_V _ _ _ _ _
    have n1 : ∀ j, τ1.2.2.2.2 j 9 = τ.2.2.2.2 j 9 := fun j => by rw [← hτ1]; exact tV_ne _ _ _ _ _ (fun w => absurd w.2 (by decide))
    have v1 : ∀ j, j < i → vC X V τ1 j := fun j hj => by rw [← hτ1]; exact vC_10 (hv j hj) _ _ _
    have c1 := cSt_m hc m1
    rw [kb_No_giveCell_39, r3, if_neg (by rw [nI_leI (by omega) (by omega)]; omega), r2, Option.bind_some, cA_ix X i r k]
    by_cases h5 : x_o X i < 5
    · obtain ⟨r4, r5⟩ := (hc.2.2 i hi).2.2.2.2.1 h5
      obtain ⟨b1, b2, b3⟩ := x_lt2 ok hi h5
      have lb := xv_lt ok hi h5 hr hk
      have bb := (xc_b ok b2).2
      rw [if_pos h5] at o1
      have rdB : mj_tabL (τ1.2.2.2.2 (x_b X i) 10) (t_len ρ (x_b X i)) (nI (x_v X i r k)) = some (en (gv1 X V i r y k (gvs X V i r y S k) (x_b X i) (x_v X i r k))) := by
        rw [cS_len c1 ok b2, mj_tabL_nI lb (by omega), s1 _ b2 _ lb]
      have o2 := cn_own2 c1 ok hi hr v1 hN gV h5 hk
      have s2 : sC X (gvs X V i r y S (k + 1)) (tV τ1 (x_b X i) 10 (x_v X i r k) (en (fadd (gv1 X V i r y k (gvs X V i r y S k) (x_b X i) (x_v X i r k)) (fmul y (ow2 (x_o X i) (fA X V i r) (fB X V i r) k))))) := by
        show sC X (gv2 X V i r y k _) _
        unfold gv2
        rw [if_pos h5]
        exact sC_up s1 _ _ _
      obtain ⟨τ', q1, q2, q3, q4⟩ := ih (k + 1) f' _ S (by omega) (by omega) (cSt_m c1 (tsm_V τ1 (x_b X i) 10 (x_v X i r k) _)) (fun j hj => vC_10 (v1 j hj) _ _ _) gS s2
      refine ⟨τ', ?_, tsm_trans m1 (tsm_trans (tsm_V _ _ _ _ _) q2), fun j => ?_, q4⟩
      · rw [if_pos h5, r5]
        rw [tk_opt_s, Option.bind_some, cB_ix X i r k]
        unfold kb_No_giveCell_85 kb_No_giveCell_168
        rw [r1, Option.bind_some, Option.bind_some, rdA, Option.bind_some, o1, kk_some, kf_times (by omega) hy (fG_ow1 _ tb.2 gA gB k), Option.bind_some, kf_add (by omega) (gk _ _) (fG_mul _ _), Option.bind_some, cS_len hc ok g2, mj_gd_nI la (by omega), nI_clamp (show x_u X i r k < 2 ^ 31 by omega), hτ1, r4]
        rw [kk_letE, tk_opt_s, Option.bind_some, Option.bind_some, rdB, Option.bind_some, o2, kk_some, kf_times (by omega) hy (fG_ow2 _ gA k), Option.bind_some, kf_add (by omega) (gF_gv1 gk _ _) (fG_mul _ _), Option.bind_some, cS_len hc ok b2, mj_gd_nI lb (by omega), nI_clamp (show x_v X i r k < 2 ^ 31 by omega), kk_letE, nI_1]
        rw [if_pos h5] at q1
        exact q1
      · rw [q3, tV_ne _ _ _ _ _ (fun w => absurd w.2 (by decide)), n1]
    · obtain ⟨r4, r5⟩ := (hc.2.2 i hi).2.2.2.2.2 (by omega)
      rw [if_neg h5] at o1
      have s2 : sC X (gvs X V i r y S (k + 1)) τ1 := by
        show sC X (gv2 X V i r y k _) _
        unfold gv2
        rw [if_neg h5]
        exact s1
      obtain ⟨τ', q1, q2, q3, q4⟩ := ih (k + 1) f' _ S (by omega) (by omega) c1 v1 gS s2
      refine ⟨τ', ?_, tsm_trans m1 q2, fun j => ?_, q4⟩
      · rw [if_neg h5, r5]
        rw [tk_opt_n]
        unfold kb_No_giveCell_85 kb_No_giveCell_168
        rw [r1, Option.bind_some, Option.bind_some, rdA, Option.bind_some, o1, kk_some, kf_times (by omega) hy (fG_ow1 _ tb.2 gA gB k), Option.bind_some, kf_add (by omega) (gk _ _) (fG_mul _ _), Option.bind_some, cS_len hc ok g2, mj_gd_nI la (by omega), nI_clamp (show x_u X i r k < 2 ^ 31 by omega), hτ1, r4]
        rw [kk_letE, tk_opt_n, nI_1]
        rw [if_neg h5] at q1
        exact q1
      · rw [q3, n1]
theorem cn_give {X : tX} {ρ : tR} {V S : tF} {τ : tS} (ok : x_ok X) {i : Nat} (hi : i < x_n X) {r : Nat} (hr : r < x_c X i) {N : Nat} (hN : 300 ≤ N) (gV : gF V) (ho : x_o X i < 16) (hc : cSt X ρ τ) (hv : ∀ j, j < i → vC X V τ j) (gS : gF S) (hs : sC X S τ) : ∃ τ', kf_No_giveCell N ρ τ i (nI r) (nI (x_u X i r 0)) (if x_o X i < 5 then nI (x_v X i r 0) else 0) = some ((), τ') ∧ tsm τ τ' ∧ (∀ j, τ'.2.2.2.2 j 9 = τ.2.2.2.2 j 9) ∧ sC X (gcl X V i r S) τ' := by
  have tb := xt_b ok hi ho
  have cb := (xc_b ok hi).2
  have op := cS_op hc hi ho
  unfold kf_No_giveCell kb_No_giveCell_0
  rw [cS_len hc ok hi, mj_tabL_nI hr (by omega), Option.bind_some, hs i hi r hr]
  unfold gcl
  by_cases h0 : S i r = some 0
  · have z : lg_cmp (en (S i r)) 1 = 0 := by rw [← en_Z]; exact (lg_en (gS _ _) fG_Z).mpr h0
    rw [if_pos z, if_pos h0]
    exact ⟨τ, rfl, tsm_refl _, fun _ => rfl, hs⟩
  · have z : ¬ lg_cmp (en (S i r)) 1 = 0 := by rw [← en_Z]; exact fun q => h0 ((lg_en (gS _ _) fG_Z).mp q)
    rw [if_neg z, if_neg h0]
    obtain ⟨τ', q1, q2⟩ := cn_gvs (ρ := ρ) ok hi hr hN gV ho (gS i r) (x_t X i) 0 N τ S (by omega) (by omega) hc hv gS hs
    refine ⟨τ', ?_, q2⟩
    unfold kb_No_giveCell_34
    rw [op, cn_great hc ok hi hr hv hN gV ho, kk_some]
    by_cases h7 : x_o X i = 7
    · rw [if_pos h7] at q1
      rw [if_pos (show nI (x_o X i) = 7 by rw [h7]; rfl)]
      exact q1
    · rw [if_neg h7] at q1
      rw [if_neg (fun q : nI (x_o X i) = 7 => h7 ((nI_eq (b := 7) (by omega) (by omega)).mp q))]
      exact q1
theorem cn_down {X : tX} {ρ : tR} {V S : tF} {τ : tS} (ok : x_ok X) {i : Nat} (hi : i < x_n X) {N : Nat} (hN : 300 ≤ N) (gV : gF V) (ho : x_o X i < 16) (hc : cSt X ρ τ) (hv : ∀ j, j < i → vC X V τ j) (gS : gF S) (hs : sC X S τ) : ∃ τ', kf_No_walk N ρ τ i 1 = some ((), τ') ∧ tsm τ τ' ∧ (∀ j, τ'.2.2.2.2 j 9 = τ.2.2.2.2 j 9) ∧ sC X (gnd X V i S (x_c X i)) τ' := by
  exact cn_walk (X := X) (ρ := ρ) ok hi ho hN 1 (fun r τ' => tsm τ τ' ∧ (∀ j, τ'.2.2.2.2 j 9 = τ.2.2.2.2 j 9) ∧ sC X (gnd X V i S r) τ') (fun r τ' w => cSt_m hc w.1) (fun r τ1 hr w => by
    obtain ⟨w1, w2, w3⟩ := w
    have hc1 := cSt_m hc w1
    have hv1 : ∀ j, j < i → vC X V τ1 j := fun j hj c hc => by
      rw [w2 j]
      exact hv j hj c hc
    obtain ⟨τ2, q1, q2, q3, q4⟩ := cn_give ok hi hr hN gV ho hc1 hv1 (gF_gnd (X := X) (V := V) (i := i) gS r) w3
    refine ⟨τ2, ⟨tsm_trans w1 q2, fun j => (q3 j).trans (w2 j), q4⟩, fun c19 c33 c48 x y z => ?_⟩
    unfold kb_No_walk_97 kb_No_walk_129
    rw [if_neg (by decide), q1]
    rfl) (τ := τ) ⟨tsm_refl τ, fun _ => rfl, hs⟩
