/-! THE TAPE, 12: what the reference gives on from one cell -/
theorem fmul_1 {z : Option Rat} (h : fG z) : fmul (some 1) z = z := by
  cases z with
  | none => rfl
  | some r =>
    show fx (1 * r) = some r
    rw [Rat.one_mul, fx_of h]
theorem finv_d {z : Option Rat} (h : fG z) : fdiv (some 1) z = finv z := by
  rw [fdiv_inv, fmul_1 (fG_inv h)]
theorem fx_neg (r : Rat) : fx (-r) = fneg (fx r) := by
  unfold fx
  rw [Rat.neg_num, Rat.neg_den, Int.natAbs_neg]
  split
  · rfl
  · rfl
theorem fdiv_neg (x y : Option Rat) : fdiv (fneg x) y = fneg (fdiv x y) := by
  cases x with
  | none => rfl
  | some r =>
    cases y with
    | none => rfl
    | some s =>
      unfold fdiv fneg
      by_cases h : s = 0
      · simp [h]
      · simp only [h, if_false]
        rw [Rat.neg_mul, fx_neg]
        rfl
theorem fo_invt {t : Nat} (h1 : 1 ≤ t) (h : t ≤ 64) : fo 1 (t : Int) = finv (fnat t) := by
  obtain ⟨f1, f2, f3⟩ := fnat_s (y := t) (by omega)
  rw [← finv_d f1]
  cases hf : fnat t with
  | none =>
    rw [hf] at f3
    exact absurd f3 (by decide)
  | some r =>
    rw [hf] at f2 f3
    have e := fo_div 1 r
    have n1 : r.num = (t : Int) := f2
    have d1 : (r.den : Int) = 1 := f3
    rw [n1, d1, show (1 : Rat).num = 1 from rfl, show ((1 : Rat).den : Int) = 1 from rfl, Int.one_mul, Int.one_mul] at e
    exact e
theorem fo_11 : fo 1 1 = some 1 := fnat_1
theorem fo_01 : fo 0 1 = some 0 := fnat_0
theorem fo_m1 : fo (-1) 1 = some (-1) := by decide +kernel
theorem fo_00 : fo 0 0 = none := rfl
theorem rg_m1 : rg (-1) := ⟨by decide, by decide⟩
abbrev fGv (σ s : kS) : Prop := kfr [] [0, 1] [] [13, 14] σ s
/-- the sums S stand in the nodes up to m, y is being given -/
def GS (X : tX) (m : Nat) (σ : kS) (y : Option Rat) (S : tF) (s : kS) : Prop := fGv σ s ∧ s.2.1 15 = zL (pP y) ∧ s.2.1 16 = zL (pQ y) ∧ gF S ∧ ∀ j, j ≤ m → hR 13 14 X S s j
theorem gs_PQ {X : tX} {m : Nat} {σ : kS} {y : Option Rat} {S : tF} {s : kS} (h : GS X m σ y S s) (x : Option Rat) : GS X m σ y S (kPQ s x) := ⟨kfr_trans h.1 (kfr_PQ (by decide) (by decide)), h.2.1, h.2.2.1, h.2.2.2.1, h.2.2.2.2⟩
theorem gs_give {X : tX} (ok : x_ok X) {m : Nat} (hm : m < x_n X) {σ : kS} {y : Option Rat} (hy : fG y) {S : tF} {s : kS} {x : Option Rat} (hx : fG x) (h : GS X m σ y S (kPQ s x)) {N : Nat} (hN : 300 ≤ N) {j c : Nat} (hj : j ≤ m) (hc : c < x_c X j) : ∃ s', kf_PM_gives N (kPQ s x) (nI (64 * j + c)) = some ((), s') ∧ GS X m σ y (fup S j c (fadd (S j c) (fmul y x))) s' := by
  have hn := ok.1
  have cb := (xc_b ok (show j < x_n X by omega)).2
  obtain ⟨h1, h2, h3, h4, h5⟩ := h
  refine ⟨wr2 (kPQ s (fadd (S j c) (fmul y x))) 13 14 (64 * j + c) (fadd (S j c) (fmul y x)), ?_, ?_, ?_, ?_, gF_up h4 _ _ (fG_add _ _), ?_⟩
  · unfold kf_PM_gives kb_PM_gives_0
    obtain ⟨w1, w2⟩ := h5 j hj c hc
    have w1' : s.2.2.2 13 (64 * j + c) = zL (pP (S j c)) := w1
    have w2' : s.2.2.2 14 (64 * j + c) = zL (pQ (S j c)) := w2
    rw [h2, h3, kPQ_p, kPQ_q, kp_times (by omega) _ hy hx, kk_some, kPQ_kPQ, kPQ_p, kPQ_q]
    show Option.bind (mj_tabL (s.2.2.2 13) 3200 _) _ = _
    rw [mj_tabL_nI (by omega) (by omega), Option.bind_some]
    show Option.bind (mj_tabL (s.2.2.2 14) 3200 _) _ = _
    rw [mj_tabL_nI (by omega) (by omega), Option.bind_some, w1', w2', kp_plus (by omega) _ (h4 _ _) (fG_mul _ _), kk_some, kPQ_kPQ, mj_gd_nI (by omega) (by omega), kk_letE, mj_gd_nI (by omega) (by omega), kk_letE, nI_clamp (by omega), kB_2, kPQ_p, kPQ_q]
    rfl
  · refine kfr_trans (kfr_trans h1 ?_) (kfr_wr2 (by decide) (by decide))
    rw [← kPQ_kPQ s x (fadd (S j c) (fmul y x))]
    exact kfr_PQ (I := []) (L := [0, 1]) (A := []) (B := [13, 14]) (by decide) (by decide)
  · exact h2
  · exact h3
  · intro j' hj'
    exact hR_ne (f := 13) (g := 14) (by decide) ok (by omega) (by omega) hc (fun c' hc' => ⟨fun q => by
      unfold fup
      rw [if_pos q], fun q => by
      unfold fup
      rw [if_neg q]
      exact h5 j' hj' c' hc'⟩)
theorem gs_st {X : tX} {σ : kS} {m : Nat} {y : Option Rat} {S : tF} {s : kS} (h : rSt X σ) (g : GS X m σ y S s) : rSt X s := rSt_fr g.1 (by decide) (by decide) (by decide) (by decide) (by decide) (by decide) h
theorem gs_v {X : tX} {V : tF} {σ : kS} {m : Nat} {y : Option Rat} {S : tF} {s : kS} {j : Nat} (h : vR X V σ j) (g : GS X m σ y S s) : vR X V s j := by
  unfold vR at *
  rw [g.1.2.2.2 9 (by decide), g.1.2.2.2 10 (by decide)]
  exact h
/-- the first's part of term k -/
theorem rgv_1 {X : tX} {σ : kS} {V : tF} (ok : x_ok X) {m : Nat} (hm : m < x_n X) {i : Nat} (hi : i ≤ m) {r : Nat} (hr : r < x_c X i) {N : Nat} (hN : 300 ≤ N) (gV : gF V) {y : Option Rat} (hy : fG y) (ho : x_o X i < 16) {k : Nat} (hk : k < x_t X i) {S : tF} {s : kS} (g : GS X m σ y S s) {x : Option Rat} (hx : x = ow1 (x_o X i) (x_t X i) (fA X V i r) (fB X V i r) k) : ∃ s', kf_PM_gives N (kPQ s x) (64 * nI (x_a X i) + nI (x_u X i r k)) = some ((), s') ∧ GS X m σ y (gv1 X V i r y k S) s' := by
  have tb := xt_b ok (show i < x_n X by omega) ho
  obtain ⟨g1, g2, g3, g4⟩ := x_lt ok (show i < x_n X by omega) ho
  have gx : fG x := by rw [hx]; exact fG_ow1 _ tb.2 (fun k => gV _ _) (fun k => gV _ _) k
  obtain ⟨s', q1, q2⟩ := gs_give ok hm hy gx (gs_PQ g x) hN (show x_a X i ≤ m by omega) (xu_lt ok (by omega) ho hr hk)
  refine ⟨s', ?_, ?_⟩
  · rw [n64]
    exact q1
  · unfold gv1
    rw [← hx]
    exact q2
theorem rgv_2 {X : tX} {σ : kS} {V : tF} (ok : x_ok X) {m : Nat} (hm : m < x_n X) {i : Nat} (hi : i ≤ m) {r : Nat} (hr : r < x_c X i) {N : Nat} (hN : 300 ≤ N) (gV : gF V) {y : Option Rat} (hy : fG y) (ho : x_o X i < 5) {k : Nat} (hk : k < x_t X i) {S : tF} {s : kS} (g : GS X m σ y S s) {x : Option Rat} (hx : x = ow2 (x_o X i) (fA X V i r) (fB X V i r) k) : ∃ s', kf_PM_gives N (kPQ s x) (64 * nI (x_b X i) + nI (x_v X i r k)) = some ((), s') ∧ GS X m σ y (gv2 X V i r y k S) s' := by
  obtain ⟨g1, g2, g3⟩ := x_lt2 ok (show i < x_n X by omega) ho
  have gx : fG x := by rw [hx]; exact fG_ow2 _ (fun k => gV _ _) k
  obtain ⟨s', q1, q2⟩ := gs_give ok hm hy gx (gs_PQ g x) hN (show x_b X i ≤ m by omega) (xv_lt ok (by omega) ho hr hk)
  refine ⟨s', ?_, ?_⟩
  · rw [n64]
    exact q1
  · unfold gv2
    rw [if_pos ho, ← hx]
    exact q2
theorem gv2_no {X : tX} {V : tF} {i r : Nat} {y : Option Rat} (h5 : ¬ x_o X i < 5) {k : Nat} {S : tF} : gv2 X V i r y k S = S := by
  unfold gv2
  rw [if_neg h5]
