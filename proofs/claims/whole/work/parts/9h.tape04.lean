/-! THE TAPE, 4: all values of a tape; the class reckons them -/
theorem ev_g {o t : Nat} {f g g' : Nat → Option Rat} (h : 5 ≤ o) : ev o t f g = ev o t f g' := by
  unfold ev
  rw [if_neg (show ¬ o = 0 by omega), if_neg (show ¬ o = 1 by omega), if_neg (show ¬ o = 2 by omega), if_neg (show ¬ o = 3 by omega), if_neg (show ¬ o = 4 by omega), if_neg (show ¬ o = 0 by omega), if_neg (show ¬ o = 1 by omega), if_neg (show ¬ o = 2 by omega), if_neg (show ¬ o = 3 by omega), if_neg (show ¬ o = 4 by omega)]
def VV (X : tX) (L : tF) : Nat → tF
  | 0 => L
  | m + 1 => fun i c => if i = m ∧ x_o X m < 16 then ev (x_o X m) (x_t X m) (fA X (VV X L m) m c) (fB X (VV X L m) m c) else VV X L m i c
theorem gF_VV {X : tX} {L : tF} (hL : gF L) : ∀ m, gF (VV X L m)
  | 0 => hL
  | m + 1 => fun i c => by
    have ih := gF_VV (X := X) hL m
    unfold VV
    exact fG_ite (fG_ev _ _ (fun k => ih _ _) (fun k => ih _ _)) (ih _ _)
theorem VV_st {X : tX} {L : tF} {m i : Nat} (h : i ≠ m) : VV X L (m + 1) i = VV X L m i := by
  funext c
  show (if i = m ∧ x_o X m < 16 then _ else _) = _
  rw [if_neg (fun w => h w.1)]
theorem VV_leaf {X : tX} {L : tF} {i : Nat} (h : x_o X i = 16) : ∀ m, VV X L m i = L i
  | 0 => rfl
  | m + 1 => by
    have ih := VV_leaf (L := L) h m
    by_cases e : i = m
    · subst e
      funext c
      show (if i = i ∧ x_o X i < 16 then _ else VV X L i i c) = _
      rw [if_neg (fun w => by omega), ih]
    · rw [VV_st e, ih]
theorem VV_lt {X : tX} {L : tF} {i : Nat} : ∀ m, i < m → VV X L m i = VV X L (i + 1) i
  | 0, h => absurd h (by omega)
  | m + 1, h => by
    by_cases e : i = m
    · subst e
      rfl
    · rw [VV_st e, VV_lt m (by omega)]
theorem VV_eq {X : tX} {L : tF} (ok : x_ok X) {i : Nat} (hi : i < x_n X) (ho : x_o X i < 16) {m : Nat} (hm : i < m) (c : Nat) : VV X L m i c = ev (x_o X i) (x_t X i) (fA X (VV X L m) i c) (fB X (VV X L m) i c) := by
  obtain ⟨g1, g2, g3, g4⟩ := x_lt ok hi ho
  have lo : ∀ j, j < i → VV X L m j = VV X L i j := fun j hj => by rw [VV_lt m (by omega), VV_lt i hj]
  rw [VV_lt m hm]
  show (if i = i ∧ x_o X i < 16 then _ else _) = _
  rw [if_pos ⟨rfl, ho⟩]
  have e1 : fA X (VV X L m) i c = fA X (VV X L i) i c := by
    funext k
    show VV X L m _ _ = VV X L i _ _
    rw [lo _ g1]
  rw [e1]
  by_cases h5 : x_o X i < 5
  · have e2 : fB X (VV X L m) i c = fB X (VV X L i) i c := by
      funext k
      show VV X L m _ _ = VV X L i _ _
      rw [lo _ (x_lt2 ok hi h5).1]
    rw [e2]
  · exact ev_g (by omega)
/-- the first m nodes are the same -/
def x_eq (X Y : tX) (m : Nat) : Prop := ∀ i, i < m → x_o Y i = x_o X i ∧ x_a Y i = x_a X i ∧ x_b Y i = x_b X i ∧ x_s Y i = x_s X i ∧ x_P Y i = x_P X i
theorem x_eqc {X Y : tX} {m : Nat} (h : x_eq X Y m) {i : Nat} (hi : i < m) : x_c Y i = x_c X i := by
  unfold x_c
  rw [(h i hi).2.2.2.2]
theorem x_equ {X Y : tX} {m : Nat} (h : x_eq X Y m) {i : Nat} (hi : i < m) (ha : x_a X i < m) : x_t Y i = x_t X i ∧ ∀ r k, x_u Y i r k = x_u X i r k := by
  obtain ⟨e1, e2, e3, e4, e5⟩ := h i hi
  obtain ⟨d1, d2, d3, d4, d5⟩ := h _ ha
  refine ⟨?_, fun r k => ?_⟩
  · unfold x_t
    rw [e1, e2, e3, d4, d5]
  · unfold x_u
    rw [e1, e2, e3, e5, d4, d5]
theorem x_eqv {X Y : tX} {m : Nat} (h : x_eq X Y m) {i : Nat} (hi : i < m) (hb : x_b X i < m) (r k : Nat) : x_v Y i r k = x_v X i r k := by
  obtain ⟨e1, e2, e3, e4, e5⟩ := h i hi
  obtain ⟨d1, d2, d3, d4, d5⟩ := h _ hb
  unfold x_v
  rw [e1, e3, e5, d5]
theorem VV_cong {X Y : tX} {L L' : tF} (ok : x_ok X) : ∀ m, m ≤ x_n X → x_eq X Y m → (∀ i, i < m → x_o X i = 16 → L' i = L i) → ∀ i, i < m → VV Y L' m i = VV X L m i
  | 0, _, _, _ => fun i hi => absurd hi (by omega)
  | m + 1, hm, he, hL => fun i hi => by
    have ih := VV_cong ok m (by omega) (fun j hj => he j (by omega)) (fun j hj => hL j (by omega))
    by_cases e : i = m
    · subst e
      obtain ⟨e1, e2, e3, e4, e5⟩ := he i (by omega)
      by_cases ho : x_o X i = 16
      · rw [VV_leaf (e1.trans ho), VV_leaf ho, hL i hi ho]
      · have ho' : x_o X i < 16 := by
          have := (ok.2 i (by omega)).1
          omega
        obtain ⟨g1, g2, g3, g4⟩ := x_lt ok (show i < x_n X by omega) ho'
        obtain ⟨t1, t2⟩ := x_equ he (show i < i + 1 by omega) (show x_a X i < i + 1 by omega)
        funext c
        show (if i = i ∧ x_o Y i < 16 then _ else _) = (if i = i ∧ x_o X i < 16 then _ else _)
        rw [if_pos ⟨rfl, by omega⟩, if_pos ⟨rfl, ho'⟩, e1, t1]
        have f1 : fA Y (VV Y L' i) i c = fA X (VV X L i) i c := by
          funext k
          show VV Y L' i (x_a Y i) (x_u Y i c k) = _
          rw [e2, t2, ih _ g1]
        rw [f1]
        by_cases h5 : x_o X i < 5
        · have b1 := (x_lt2 ok (show i < x_n X by omega) h5).1
          have f2 : fB Y (VV Y L' i) i c = fB X (VV X L i) i c := by
            funext k
            show VV Y L' i (x_b Y i) (x_v Y i c k) = _
            rw [e3, x_eqv he (show i < i + 1 by omega) (by omega), ih _ b1]
          rw [f2]
        · exact ev_g (by omega)
    · rw [VV_st e, VV_st e]
      exact ih i (by omega)
/-! states that differ in the cells of nodes alone -/
def tsm (τ τ' : tS) : Prop := τ'.1 = τ.1 ∧ τ'.2.1 = τ.2.1 ∧ τ'.2.2.1 = τ.2.2.1 ∧ τ'.2.2.2.1 = τ.2.2.2.1
theorem tsm_refl (τ : tS) : tsm τ τ := ⟨rfl, rfl, rfl, rfl⟩
theorem tsm_trans {τ τ1 τ2 : tS} (h : tsm τ τ1) (g : tsm τ1 τ2) : tsm τ τ2 := ⟨g.1.trans h.1, g.2.1.trans h.2.1, g.2.2.1.trans h.2.2.1, g.2.2.2.trans h.2.2.2⟩
theorem tsm_V (τ : tS) (i f x : Nat) (v : Int64) : tsm τ (tV τ i f x v) := ⟨rfl, rfl, rfl, rfl⟩
theorem cSt_m {X : tX} {ρ : tR} {τ τ' : tS} (h : cSt X ρ τ) (g : tsm τ τ') : cSt X ρ τ' := by
  unfold cSt at *
  rw [g.1, g.2.2.1]
  exact h
theorem tV_5 (τ : tS) (i f x : Nat) (v : Int64) (j g c : Nat) : (tV τ i f x v).2.2.2.2 j g c = if j = i ∧ g = f ∧ c = x then v else τ.2.2.2.2 j g c := by
  unfold tV va_up vp_updL
  by_cases h1 : j = i
  · subst h1
    by_cases h2 : g = f
    · subst h2
      by_cases h3 : c = x
      · simp [h3]
      · simp [h3]
    · simp [h2]
  · simp [h1]
theorem tV_ne (τ : tS) (i f x : Nat) (v : Int64) {j g : Nat} (h : ¬ (j = i ∧ g = f)) : (tV τ i f x v).2.2.2.2 j g = τ.2.2.2.2 j g := by
  funext c
  rw [tV_5, if_neg (fun w => h ⟨w.1, w.2.1⟩)]
theorem cn_reck {X : tX} {ρ : tR} {τ : tS} {V : tF} (h : cSt X ρ τ) (ok : x_ok X) {i : Nat} (hi : i < x_n X) (hv : ∀ j, j < i → vC X V τ j) {N : Nat} (hN : 300 ≤ N) (gV : gF V) (ho : x_o X i < 16) (hV : ∀ c, V i c = ev (x_o X i) (x_t X i) (fA X V i c) (fB X V i c)) : ∃ τ', kf_No_walk N ρ τ i 0 = some ((), τ') ∧ tsm τ τ' ∧ (∀ j g, ¬ (j = i ∧ g = 9) → τ'.2.2.2.2 j g = τ.2.2.2.2 j g) ∧ vC X V τ' i := by
  obtain ⟨τ', g1, g2, g3, g4⟩ := cn_walk (X := X) (ρ := ρ) ok hi ho hN 0 (fun r τ' => tsm τ τ' ∧ (∀ j g, ¬ (j = i ∧ g = 9) → τ'.2.2.2.2 j g = τ.2.2.2.2 j g) ∧ ∀ c, c < r → τ'.2.2.2.2 i 9 c = en (V i c)) (fun r τ' w => cSt_m h w.1) (fun r τ1 hr w => by
    obtain ⟨w1, w2, w3⟩ := w
    have hc := cSt_m h w1
    have hv1 : ∀ j, j < i → vC X V τ1 j := fun j hj c hc => by
      rw [w2 j 9 (fun q => by omega)]
      exact hv j hj c hc
    have lc := cS_len hc ok hi
    have cb := (xc_b ok hi).2
    refine ⟨tV τ1 i 9 r (en (V i r)), ⟨tsm_trans w1 (tsm_V _ _ _ _ _), fun j g q => ?_, fun c hc => ?_⟩, fun c19 c33 c48 x y z => ?_⟩
    · rw [tV_ne _ _ _ _ _ q]
      exact w2 j g q
    · rw [tV_5]
      by_cases e : c = r
      · subst e
        rw [if_pos ⟨rfl, rfl, rfl⟩]
      · rw [if_neg (fun q => e q.2.2)]
        exact w3 c (by omega)
    · unfold kb_No_walk_97 kb_No_walk_129
      rw [if_pos rfl, cn_cell hc ok hi hr hv1 hN gV ho, kk_some, lc, mj_gd_nI hr (by omega), nI_clamp (by omega), ← hV]
      rfl) (τ := τ) ⟨tsm_refl τ, fun _ _ _ => rfl, fun c hc => absurd hc (by omega)⟩
  exact ⟨τ', g1, g2, g3, g4⟩
theorem cn_leaf {X : tX} {ρ : tR} {τ : tS} (h : cSt X ρ τ) {i : Nat} (hi : i < x_n X) (N : Nat) (ho : x_o X i = 16) (dn : Int32) : kf_No_walk N ρ τ i dn = some ((), τ) := by
  unfold kf_No_walk kb_No_walk_0
  rw [(h.2.2 i hi).2.2.1 ho]
  rfl
theorem tn_nI {n j : Nat} (h : j < n) (hn : n ≤ 50) : tk_node n (nI j) = some (some j) := by
  unfold tk_node
  rw [if_pos (mj_in_nI (by omega) (by omega)), nI_clamp (by omega), if_pos h]
