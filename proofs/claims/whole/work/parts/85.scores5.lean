/-! SCORES, 5: the class's bests, and the call -/
theorem fab_div {a b n : Nat} (hn : 0 < n) (hn2 : n ≤ 40) (ha : a ≤ 80) (hb : b ≤ 80) : fab (fo (a : Int) (n : Int)) (fo (b : Int) (n : Int)) ↔ b < a := by
  have h0 : (n : Int) ≠ 0 := by omega
  rw [fo_some h0 (by omega) (by omega), fo_some h0 (by omega) (by omega)]
  obtain ⟨r, hr⟩ : ∃ r, r = Rat.divInt (a : Int) n := ⟨_, rfl⟩
  obtain ⟨s, hs⟩ : ∃ s, s = Rat.divInt (b : Int) n := ⟨_, rfl⟩
  rw [← hr, ← hs]
  have d1 := r.den_pos; have d2 := s.den_pos
  have e1 : r.num * (n : Int) = (a : Int) * r.den := (Rat.divInt_eq_divInt_iff (by omega) h0).mp ((di_self r).trans hr)
  have e2 : s.num * (n : Int) = (b : Int) * s.den := (Rat.divInt_eq_divInt_iff (by omega) h0).mp ((di_self s).trans hs)
  show s.num * (r.den : Int) < r.num * (s.den : Int) ↔ b < a
  have k1 : s.num * (r.den : Int) * n = (b : Int) * ((s.den : Int) * r.den) := by
    rw [Int.mul_right_comm, e2, Int.mul_assoc]
  have k2 : r.num * (s.den : Int) * n = (a : Int) * ((s.den : Int) * r.den) := by
    rw [Int.mul_right_comm, e1, Int.mul_assoc, Int.mul_comm (r.den : Int)]
  have hD : 0 < (s.den : Int) * r.den := Int.mul_pos (by omega) (by omega)
  have hnp : 0 < (n : Int) := by omega
  constructor
  · intro h
    have h3 : s.num * (r.den : Int) * n < r.num * (s.den : Int) * n := Int.mul_lt_mul_of_pos_right h hnp
    rw [k1, k2] at h3
    have := Int.lt_of_mul_lt_mul_right h3 (Int.le_of_lt hD)
    omega
  · intro h
    have h3 : (b : Int) * ((s.den : Int) * r.den) < (a : Int) * ((s.den : Int) * r.den) := Int.mul_lt_mul_of_pos_right (by omega) hD
    rw [← k1, ← k2] at h3
    exact Int.lt_of_mul_lt_mul_right h3 (Int.le_of_lt hnp)
theorem fo_z : fo 0 1 = some 0 := by
  rw [fo_some (by decide) (by decide) (by decide), Rat.zero_divInt]
theorem fo_zn {n : Nat} (hn : 0 < n) (hn2 : n ≤ 40) : fo ((0 : Nat) : Int) (n : Int) = some 0 := by
  rw [fo_some (by omega) (by decide) (by omega)]
  show some (Rat.divInt 0 n) = _
  rw [Rat.zero_divInt]
theorem bst_div {a b n : Nat} (hn : 0 < n) (hn2 : n ≤ 40) (ha : a ≤ 80) (hb : b ≤ 80) : bst (fo (a : Int) (n : Int)) (fo (b : Int) (n : Int)) = fo ((max b a : Nat) : Int) (n : Int) := by
  unfold bst
  have h1 : fo (a : Int) (n : Int) ≠ none := by
    rw [fo_some (by omega) (by omega) (by omega)]
    exact fun q => (by cases q)
  by_cases h : b < a
  · rw [if_pos (Or.inr ((fab_div hn hn2 ha hb).mpr h)), Nat.max_eq_right (by omega)]
  · rw [if_neg (fun q => q.elim h1 (fun w => h ((fab_div hn hn2 ha hb).mp w))), Nat.max_eq_left (by omega)]
theorem rt_no (t : Nat → Bool) : ∀ n : Nat, cnt (fun k => false == t k) n + cnt t n = n
  | 0 => rfl
  | n + 1 => by
    have := rt_no t n
    cases h : t n with
    | true =>
      rw [cnt_t h, cnt_f (P := fun k => false == t k) (by simp [h])]
      omega
    | false =>
      rw [cnt_f h, cnt_t (P := fun k => false == t k) (by simp [h])]
      omega
def mxr (n : Nat) (m : Nat → Int32) (t : Nat → Bool) : Nat → Nat
  | 0 => n - cnt t n
  | T + 1 => max (mxr n m t T) (rt n t (fun k => decide (m T ≤ m k)))
theorem mxr_le (n : Nat) (m : Nat → Int32) (t : Nat → Bool) : ∀ T, mxr n m t T ≤ n
  | 0 => Nat.sub_le _ _
  | T + 1 => Nat.max_le.mpr ⟨mxr_le n m t T, rt_le _ _ _⟩
theorem fbd_mx {n : Nat} (hn : n ≤ 40) (m : Nat → Int32) (t : Nat → Bool) : ∀ T, T ≤ n → fbd true n m t T = fo ((mxr n m t T : Nat) : Int) (n : Int)
  | 0, _ => by
    have e : gB true n t (fun _ => false) = fo ((n - cnt t n : Nat) : Int) (n : Int) := by
      have h1 : rt n t (fun _ => false) + cnt t n = n := rt_no t n
      have h2 : rt n t (fun _ => false) = n - cnt t n := by omega
      unfold gB
      rw [if_pos rfl, h2]
    unfold fbd mxr
    rw [e]
    by_cases h0 : n = 0
    · subst h0
      rfl
    · rw [← fo_zn (n := n) (by omega) hn, bst_div (by omega) hn (by omega) (by omega), Nat.zero_max]
  | T + 1, h => by
    have ih := fbd_mx hn m t T (by omega)
    have e : gB true n t (fun k => decide (m T ≤ m k)) = fo ((rt n t (fun k => decide (m T ≤ m k)) : Nat) : Int) (n : Int) := if_pos rfl
    unfold fbd mxr
    have b1 := mxr_le n m t T
    have b2 := rt_le n t (fun k => decide (m T ≤ m k))
    rw [ih, e, bst_div (by omega) hn (by omega) (by omega)]
theorem kf_max (N : Nat) {a b : Nat} (ha : a < 2 ^ 31) (hb : b < 2 ^ 31) : kf_Jm_max N (nI a) (nI b) = some (nI (max a b)) := by
  unfold kf_Jm_max kb_Jm_max_0 kb_Jm_max_10
  by_cases h : a < b
  · rw [if_pos ((nI_ltI ha hb).mpr h), Nat.max_eq_right (by omega)]
  · rw [if_neg (fun q => h ((nI_ltI ha hb).mp q)), Nat.max_eq_left (by omega)]
theorem sc_share {N : Nat} (hN : 100 ≤ N) {n : Nat} {m : Nat → Int32} {t : Nat → Bool} {τ : kS} (hT : scV n m t τ) : kf_Sc_greatestShareRight N τ = some (en (fbd true n m t n), τ) := by
  have hT0 := hT
  obtain ⟨hn, hsz, hrow⟩ := hT
  have hc := cnt_le t n
  have lp : ∀ (d r fu : Nat), d + r = n → d < fu → kb_Sc_greatestShareRight_12 N fu τ (nI (mxr n m t r)) (nI r) = some (en (fbd true n m t n), τ) := by
    intro d
    induction d with
    | zero =>
      intro r fu hd hf
      obtain ⟨f', rfl⟩ : ∃ f', fu = f' + 1 := ⟨fu - 1, by omega⟩
      have hr : r = n := by omega
      subst hr
      have := mxr_le r m t r
      rw [kb_Sc_greatestShareRight_12, hsz, if_pos (Int32.le_refl _), n2l (by omega), n2l (by omega), kf_of hN (rg_nat (by omega)) (rg_nat (by omega)), fbd_mx hn m t r (Nat.le_refl _)]
      rfl
    | succ d ih =>
      intro r fu hd hf
      obtain ⟨f', rfl⟩ : ∃ f', fu = f' + 1 := ⟨fu - 1, by omega⟩
      obtain ⟨h0, h1⟩ := hrow r (by omega)
      have b1 := mxr_le n m t r
      have b2 := rt_le n t (fun k => decide (m r ≤ m k))
      have e : kf_Sc_countRight N τ (m r) = some (nI (rt n t (fun k => decide (m r ≤ m k))), τ) := sc_right hN hT0 (m r)
      rw [kb_Sc_greatestShareRight_12, hsz, if_neg (by rw [nI_leI (by omega) (by omega)]; omega), mj_tab_nI (by omega) (by omega), Option.bind_some, h0, e, kk_some, kf_max N (by omega) (by omega), Option.bind_some, nI_1]
      exact ih (r + 1) f' (by omega) (by omega)
  unfold kf_Sc_greatestShareRight kb_Sc_greatestShareRight_0
  rw [sc_yes hN hT0, kk_some, hsz, nI_sub hc]
  exact lp n 0 N (by omega) (by omega)
theorem gB_none {n : Nat} (hn : n ≤ 40) (t S : Nat → Bool) : gB false n t S ≠ none := by
  unfold gB
  have h1 := rt_le n t S; have h2 := fd_le n t S
  rw [if_neg (by decide)]
  split
  · rw [fo_z]
    exact fun q => (by cases q)
  · rw [fo_some (by omega) (by omega) (by omega)]
    exact fun q => (by cases q)
theorem fbd_f0 {n : Nat} (m : Nat → Int32) (t : Nat → Bool) : fbd false n m t 0 = some 0 := by
  have h0 : fd n t (fun _ => false) = 0 := by
    have : ∀ k, cnt (fun q => t q && false) k = 0 := by
      intro k
      induction k with
      | zero => rfl
      | succ k ih => rw [cnt_f (P := fun q => t q && false) (by simp), ih]
    exact this n
  unfold fbd gB
  rw [if_neg (by decide), if_pos h0, fo_z]
  decide
theorem sc_bal {N : Nat} (hN : 100 ≤ N) {n : Nat} {m : Nat → Int32} {t : Nat → Bool} {τ : kS} (hT : scV n m t τ) : kf_Sc_greatestBalance N τ = some (en (fbd false n m t n), τ) := by
  have hT0 := hT
  obtain ⟨hn, hsz, hrow⟩ := hT
  have lp : ∀ (d r fu : Nat), d + r = n → d < fu → kb_Sc_greatestBalance_4 N fu τ (en (fbd false n m t r)) (nI r) = some (en (fbd false n m t n), τ) := by
    intro d
    induction d with
    | zero =>
      intro r fu hd hf
      obtain ⟨f', rfl⟩ : ∃ f', fu = f' + 1 := ⟨fu - 1, by omega⟩
      have hr : r = n := by omega
      subst hr
      rw [kb_Sc_greatestBalance_4, hsz, if_pos (Int32.le_refl _)]
    | succ d ih =>
      intro r fu hd hf
      obtain ⟨f', rfl⟩ : ∃ f', fu = f' + 1 := ⟨fu - 1, by omega⟩
      obtain ⟨h0, h1⟩ := hrow r (by omega)
      have ih2 := ih (r + 1) f' (by omega) (by omega)
      have eb : fbd false n m t (r + 1) = bst (gB false n t (fun k => decide (m r ≤ m k))) (fbd false n m t r) := rfl
      have gn := gB_none hn t (fun k => decide (m r ≤ m k))
      have gG := fG_gB false n t (fun k => decide (m r ≤ m k))
      have b1 := fd_le n t (fun k => decide (m r ≤ m k))
      have b2 := rt_le n t (fun k => decide (m r ≤ m k))
      have e1 : kf_Sc_countRight N τ (m r) = some (nI (rt n t (fun k => decide (m r ≤ m k))), τ) := sc_right hN hT0 (m r)
      have e2 : kf_Sc_countYesToldYes N τ (m r) = some (nI (fd n t (fun k => decide (m r ≤ m k))), τ) := sc_found hN hT0 (m r)
      have fin : ∀ F, fG F → F = gB false n t (fun k => decide (m r ≤ m k)) → kb_Sc_greatestBalance_64 N (kb_Sc_greatestBalance_4 N f') τ (en (fbd false n m t r)) (nI r) (en F) = some (en (fbd false n m t n), τ) := by
        intro F hF eF
        unfold kb_Sc_greatestBalance_64 kb_Sc_greatestBalance_78
        rw [kf_compare N hF (fG_fbd _ _ _ _ _), Option.bind_some, nI_1, ← ih2, eb, ← eF]
        unfold bst
        by_cases h : fab F (fbd false n m t r)
        · rw [if_pos h, if_neg (by decide), if_pos (Or.inr h)]
        · rw [if_neg h, if_neg (c := F = none ∨ fab F (fbd false n m t r)) (fun q => q.elim (fun w => gn (eF ▸ w)) h)]
          have : (if fab (fbd false n m t r) F then (-1 : Int32) else 0) ≤ 0 := by split <;> decide
          rw [if_pos this]
      rw [kb_Sc_greatestBalance_4, hsz, if_neg (by rw [nI_leI (by omega) (by omega)]; omega), mj_tab_nI (by omega) (by omega), Option.bind_some, h0, e2, kk_some, mj_tab_nI (by omega) (by omega), Option.bind_some, h0, e1, kk_some, hsz]
      have m2 : (2 : Int32) * nI (fd n t (fun k => decide (m r ≤ m k))) = nI (2 * fd n t (fun k => decide (m r ≤ m k))) := by rw [show (2 : Int32) = nI 2 from rfl, nI_mul]
      rw [m2, nI_sub b2, nI_add, n2l (by omega), n2l (by omega), kf_of hN (rg_nat (by omega)) (rg_nat (by omega)), Option.bind_some]
      by_cases hz : fd n t (fun k => decide (m r ≤ m k)) = 0
      · rw [if_pos (by rw [hz]; rfl), ← en_Z]
        exact fin (some 0) fG_Z (by simp [gB, hz, fo_z])
      · rw [if_neg (nI_ne0 (by omega) (by omega))]
        exact fin _ (fG_fo _ _) (by simp [gB, hz])
  have e : kf_Sc_greatestBalance N τ = kb_Sc_greatestBalance_4 N N τ (en (fbd false n m t 0)) (nI 0) := by
    rw [fbd_f0, en_Z]
    rfl
  rw [e]
  exact lp n 0 N (by omega) (by omega)
/-- the score: the class's long is of the fraction that the reference tells -/
theorem op_score {N : Nat} (hN : 100 ≤ N) {τ σ : kS} (h : R_Sc τ σ) {k : Nat} (hk : k ≤ 3) (v : Int32) (hv : 0 ≤ v.toInt ∧ v.toInt ≤ 1) : ∃ f s, fG f ∧ kf_Sc_scoreOf N τ (nI k) = some (en f, τ) ∧ kf_PM_score N σ (nI k) v = some (if v = 0 then zL (pP f) else zL (pQ f), s) ∧ R_Sc τ s ∧ fSc σ s := by
  obtain ⟨n, m, t, g1, g2⟩ := h
  have fin : ∀ (f : Option Rat) (s : kS), fG f → kfr [] [0, 1] [] [] σ s → kf_Sc_scoreOf N τ (nI k) = some (en f, τ) → kf_PM_score N σ (nI k) v = kb_PM_score_63 N (kPQ s f) v → ∃ f s, fG f ∧ kf_Sc_scoreOf N τ (nI k) = some (en f, τ) ∧ kf_PM_score N σ (nI k) v = some (if v = 0 then zL (pP f) else zL (pQ f), s) ∧ R_Sc τ s ∧ fSc σ s := by
    intro f s hf hs h1 h2
    have fr : kfr [] [0, 1] [] [] σ (kPQ s f) := kfr_trans hs (kfr_PQ (by decide) (by decide))
    refine ⟨f, kPQ s f, hf, h1, ?_, ⟨n, m, t, g1, psV_fr fr (by decide) (by decide) (by decide) g2⟩, kfr_mono fr (by decide) (by decide) (by decide) (by decide)⟩
    rw [h2]
    unfold kb_PM_score_63
    rw [kp_told]
    rfl
  have pre : kf_PM_score N σ (nI k) v = (if nI k = 0 then (kk_call (kf_PM_sides N σ) fun _ s31 => kb_PM_score_63 N s31 v) else if nI k = 3 then (kk_call (kf_PM_ranks N σ) fun _ s43 => kb_PM_score_63 N s43 v) else if nI k = 1 then (kb_PM_score_60 N σ v 1) else kb_PM_score_60 N σ v 0) := by
    unfold kf_PM_score kb_PM_score_0
    rw [show (0 : Int64) = zL 0 from rfl, show (3 : Int64) = zL 3 from rfl, show (1 : Int64) = zL 1 from rfl, pm_isIn N (nI k) rg_0 ⟨by decide, by decide⟩, Option.bind_some, nI_toInt (by omega), if_neg (fun q => bI_0.mp q (by omega)), pm_isIn N v rg_0 rg_1, Option.bind_some, if_neg (fun q => bI_0.mp q hv)]
  rcases (show k = 0 ∨ k = 1 ∨ k = 2 ∨ k = 3 by omega) with e | e | e | e <;> subst e
  · refine fin (fside n m t) σ (fG_fo _ _) (kfr_refl _ _ _ _ _) ?_ ?_
    · unfold kf_Sc_scoreOf kb_Sc_scoreOf_0
      rw [if_pos (by decide), sc_sides hN g1]
      rfl
    · rw [pre, if_pos (by decide), ps_sides hN g2]
      rfl
  · obtain ⟨s, b1, b2⟩ := ps_bounds hN true g2
    refine fin (fbd true n m t n) s (fG_fbd _ _ _ _ _) b2 ?_ ?_
    · unfold kf_Sc_scoreOf kb_Sc_scoreOf_0
      rw [if_neg (by decide), if_pos (by decide), sc_share hN g1]
      rfl
    · rw [pre, if_neg (by decide), if_neg (by decide), if_pos (by decide)]
      unfold kb_PM_score_60
      have b1' : kf_PM_bounds N σ 1 = some ((), kPQ s (fbd true n m t n)) := b1
      rw [b1']
      rfl
  · obtain ⟨s, b1, b2⟩ := ps_bounds hN false g2
    refine fin (fbd false n m t n) s (fG_fbd _ _ _ _ _) b2 ?_ ?_
    · unfold kf_Sc_scoreOf kb_Sc_scoreOf_0
      rw [if_neg (by decide), if_neg (by decide), if_pos (by decide), sc_bal hN g1]
      rfl
    · rw [pre, if_neg (by decide), if_neg (by decide), if_neg (by decide)]
      unfold kb_PM_score_60
      have b1' : kf_PM_bounds N σ 0 = some ((), kPQ s (fbd false n m t n)) := b1
      rw [b1']
      rfl
  · obtain ⟨s, b1, b2⟩ := ps_mean hN g2
    refine fin (fmean n m t) s (fG_div _ _) b2 ?_ ?_
    · unfold kf_Sc_scoreOf kb_Sc_scoreOf_0
      rw [if_neg (by decide), if_neg (by decide), if_neg (by decide), sc_mean hN g1]
      rfl
    · rw [pre, if_neg (by decide), if_pos (by decide), b1]
      rfl
