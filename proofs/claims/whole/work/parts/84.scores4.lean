/-! SCORES, 4: the best bound -/
def rt (n : Nat) (t S : Nat → Bool) : Nat := cnt (fun k => S k == t k) n
def fd (n : Nat) (t S : Nat → Bool) : Nat := cnt (fun k => t k && S k) n
theorem rt_le (n : Nat) (t S : Nat → Bool) : rt n t S ≤ n := cnt_le _ _
theorem fd_le (n : Nat) (t S : Nat → Bool) : fd n t S ≤ n := cnt_le _ _
def gB (sh : Bool) (n : Nat) (t S : Nat → Bool) : Option Rat := if sh then fo ((rt n t S : Nat) : Int) (n : Int) else if fd n t S = 0 then fo 0 1 else fo ((2 * fd n t S : Nat) : Int) ((2 * fd n t S + (n - rt n t S) : Nat) : Int)
def bst (F f : Option Rat) : Option Rat := if F = none ∨ fab F f then F else f
theorem fG_gB (sh : Bool) (n : Nat) (t S : Nat → Bool) : fG (gB sh n t S) := by
  unfold gB
  split
  · exact fG_fo _ _
  · split
    · exact fG_fo _ _
    · exact fG_fo _ _
theorem fG_bst {F f : Option Rat} (h : fG F) (g : fG f) : fG (bst F f) := by
  unfold bst
  split
  · exact h
  · exact g
def fbd (sh : Bool) (n : Nat) (m : Nat → Int32) (t : Nat → Bool) : Nat → Option Rat
  | 0 => bst (gB sh n t (fun _ => false)) (some 0)
  | T + 1 => bst (gB sh n t (fun k => decide (m T ≤ m k))) (fbd sh n m t T)
theorem fG_fbd (sh : Bool) (n : Nat) (m : Nat → Int32) (t : Nat → Bool) : ∀ T, fG (fbd sh n m t T)
  | 0 => fG_bst (fG_gB _ _ _ _) fG_Z
  | T + 1 => fG_bst (fG_gB _ _ _ _) (fG_fbd sh n m t T)
/-- what a bound says, as the reference has it -/
def says (n : Nat) (m : Nat → Int32) (v : Int32) (S : Nat → Bool) : Prop := (v = -1 ∧ S = fun _ => false) ∨ ∃ T, T < n ∧ v = nI T ∧ S = fun k => decide (m T ≤ m k)
theorem pb_in {N : Nat} {n : Nat} {m : Nat → Int32} {t S : Nat → Bool} {σ : kS} (hT : psV n m t σ) (c8 : kS → Int32 → Int64 → Int64 → Int32 → Option (Unit × kS)) (v1 v6 : Int32) (v2 v4 : Int64) (hS : says n m v6 S) : ∀ (d k fu : Nat), d + k = n → d < fu →
    kb_PM_bounds_26 N c8 fu σ v1 v2 v4 v6 (nI (cnt (fun q => S q == t q) k)) (nI (cnt (fun q => t q && S q) k)) (nI k) = kb_PM_bounds_26 N c8 1 σ v1 v2 v4 v6 (nI (rt n t S)) (nI (fd n t S)) (nI n) := by
  obtain ⟨hn, hsz, hrow⟩ := hT
  intro d
  induction d with
  | zero =>
    intro k fu hd hf
    obtain ⟨f', rfl⟩ : ∃ f', fu = f' + 1 := ⟨fu - 1, by omega⟩
    have hr : k = n := by omega
    subst hr
    have hle : nI k ≤ nI k := Int32.le_refl _
    rw [kb_PM_bounds_26, kb_PM_bounds_26, hsz, if_pos hle, if_pos hle]
    rfl
  | succ d ih =>
    intro k fu hd hf
    obtain ⟨f', rfl⟩ : ∃ f', fu = f' + 1 := ⟨fu - 1, by omega⟩
    obtain ⟨h0, h1⟩ := hrow k (by omega)
    have ih2 := ih (k + 1) f' (by omega) (by omega)
    rw [kb_PM_bounds_26, hsz, if_neg (by rw [nI_leI (by omega) (by omega)]; omega)]
    have key : ∀ (v7 v8 : Int32), (if v6 < 0 then kb_PM_bounds_61 N c8 (kb_PM_bounds_26 N c8 f') σ v1 v2 v4 v6 v7 v8 (nI k) else Option.bind (mj_tab (σ.2.2.1 29) 40 (nI k)) fun x46 => Option.bind (mj_tab (σ.2.2.1 29) 40 v6) fun x53 => if x46 < x53 then kb_PM_bounds_61 N c8 (kb_PM_bounds_26 N c8 f') σ v1 v2 v4 v6 v7 v8 (nI k) else kb_PM_bounds_62 N c8 (kb_PM_bounds_26 N c8 f') σ v1 v2 v4 v6 v7 v8 (nI k) 1) = kb_PM_bounds_62 N c8 (kb_PM_bounds_26 N c8 f') σ v1 v2 v4 v6 v7 v8 (nI k) (bb (S k)) := by
      intro v7 v8
      unfold kb_PM_bounds_61
      rcases hS with ⟨e1, e2⟩ | ⟨T, hTn, e1, e2⟩
      · rw [if_pos (by rw [e1]; decide), e2]
        rfl
      · obtain ⟨i0, i1⟩ := hrow T hTn
        rw [e1, if_neg (nI_pos (by omega)), mj_tab_nI (by omega) (by omega), Option.bind_some, mj_tab_nI (by omega) (by omega), Option.bind_some, h0, i0, e2]
        by_cases hb : m T ≤ m k
        · rw [if_neg (Int32.not_lt.mpr hb)]
          simp [hb, bb]
        · rw [if_pos (Int32.not_le.mp hb)]
          simp [hb, bb]
    rw [key]
    unfold kb_PM_bounds_62 kb_PM_bounds_83 kb_PM_bounds_107 kb_PM_bounds_108
    rw [mj_tab_nI (by omega) (by omega), Option.bind_some, h1]
    simp only [Option.bind_some, nI_1, Int32.add_zero]
    rw [← ih2]
    cases hs : S k with
    | true =>
      cases ht : t k with
      | true =>
        rw [if_pos rfl, if_neg (by decide), if_neg (by decide), cnt_t (P := fun q => S q == t q) (by simp [hs, ht]), cnt_t (P := fun q => t q && S q) (by simp [hs, ht])]
      | false =>
        rw [if_neg (by decide), if_neg (by decide), if_pos (by decide), cnt_f (P := fun q => S q == t q) (by simp [hs, ht]), cnt_f (P := fun q => t q && S q) (by simp [hs, ht])]
    | false =>
      cases ht : t k with
      | true =>
        rw [if_neg (by decide), if_pos (by decide), cnt_f (P := fun q => S q == t q) (by simp [hs, ht]), cnt_f (P := fun q => t q && S q) (by simp [hs, ht])]
      | false =>
        rw [if_pos rfl, if_pos (by decide), cnt_t (P := fun q => S q == t q) (by simp [hs, ht]), cnt_f (P := fun q => t q && S q) (by simp [hs, ht])]
theorem pb_178 (N : Nat) (c8 : kS → Int32 → Int64 → Int64 → Int32 → Option (Unit × kS)) (σ : kS) (v1 v6 : Int32) {F f : Option Rat} (hF : fG F) (hf : fG f) : kb_PM_bounds_178 N c8 (kPQ σ F) v1 (zL (pP f)) (zL (pQ f)) v6 = c8 (kPQ σ F) v1 (zL (pP (bst F f))) (zL (pQ (bst F f))) (v6 + 1) := by
  unfold kb_PM_bounds_178 kb_PM_bounds_207 kb_PM_bounds_218 bst
  rw [kPQ_p, kPQ_q, zL_0]
  by_cases h1 : F = none
  · rw [if_pos ((zg_eq (rg_pQ hF) rg_0).mpr (pQ_0.mpr h1)), if_pos (Or.inl h1)]
  · rw [if_neg (fun q => h1 (pQ_0.mp ((zg_eq (rg_pQ hF) rg_0).mp q))), kp_isAbove N hF hf, Option.bind_some]
    by_cases h2 : fab F f
    · rw [if_neg (fun q => bI_0.mp q h2), if_pos (Or.inr h2)]
    · rw [if_pos (bI_0.mpr h2), if_neg (fun q => q.elim h1 h2)]
theorem pb_one {N : Nat} (hN : 100 ≤ N) {n : Nat} {m : Nat → Int32} {t S : Nat → Bool} {σ : kS} (hT : psV n m t σ) (c8 : kS → Int32 → Int64 → Int64 → Int32 → Option (Unit × kS)) (sh : Bool) (v6 : Int32) {f : Option Rat} (hf : fG f) (hS : says n m v6 S) :
    kb_PM_bounds_26 N c8 N σ (bb sh) (zL (pP f)) (zL (pQ f)) v6 0 0 0 = c8 (kPQ σ (gB sh n t S)) (bb sh) (zL (pP (bst (gB sh n t S) f))) (zL (pQ (bst (gB sh n t S) f))) (v6 + 1) := by
  have hn := hT.1
  have h1 := rt_le n t S; have h2 := fd_le n t S
  have e := pb_in (N := N) hT c8 (bb sh) v6 (zL (pP f)) (zL (pQ f)) hS n 0 N (by omega) (by omega)
  refine Eq.trans e ?_
  rw [← pb_178 N c8 σ (bb sh) v6 (fG_gB sh n t S) hf]
  rw [kb_PM_bounds_26, hT.2.1, if_pos (by rw [nI_leI (by omega) (by omega)]; omega), n2l (by omega), n2l (by omega), n2l (by omega), show (0 : Int64) = zL 0 from rfl, show (1 : Int64) = zL 1 from rfl, zL_2]
  cases sh with
  | true =>
    rw [if_neg (by decide), kp_least hN σ (rg_nat (by omega)) (rg_nat (by omega)), kk_some]
    rfl
  | false =>
    rw [if_pos (by decide)]
    by_cases h0 : fd n t S = 0
    · have eg : gB false n t S = fo 0 1 := by simp [gB, h0]
      rw [if_pos (by rw [h0, nI_0]), kp_least hN σ rg_0 rg_1, kk_some, eg]
    · have eg : gB false n t S = fo ((2 * fd n t S : Nat) : Int) ((2 * fd n t S + (n - rt n t S) : Nat) : Int) := by simp [gB, h0]
      have e1 : 2 * ((fd n t S : Nat) : Int) = ((2 * fd n t S : Nat) : Int) := by omega
      have e2 : ((2 * fd n t S : Nat) : Int) + (n : Int) - ((rt n t S : Nat) : Int) = ((2 * fd n t S + (n - rt n t S) : Nat) : Int) := by omega
      rw [if_neg (nI_ne0 (by omega) (by omega)), zL_mul, e1, zL_add, zL_sub, e2, kp_least hN σ (rg_nat (by omega)) (rg_nat (by omega)), kk_some, eg]
theorem ps_bounds {N : Nat} (hN : 100 ≤ N) {n : Nat} {m : Nat → Int32} {t : Nat → Bool} (sh : Bool) {σ : kS} (hT : psV n m t σ) : ∃ s, kf_PM_bounds N σ (bb sh) = some ((), kPQ s (fbd sh n m t n)) ∧ kfr [] [0, 1] [] [] σ s := by
  have hn := hT.1
  have lp : ∀ (d r fu : Nat) (σ : kS), psV n m t σ → d + r = n → d < fu → ∃ s, kb_PM_bounds_8 N fu σ (bb sh) (zL (pP (fbd sh n m t r))) (zL (pQ (fbd sh n m t r))) (nI r) = some ((), kPQ s (fbd sh n m t n)) ∧ kfr [] [0, 1] [] [] σ s := by
    intro d
    induction d with
    | zero =>
      intro r fu σ hT hd hf
      obtain ⟨f', rfl⟩ : ∃ f', fu = f' + 1 := ⟨fu - 1, by omega⟩
      have hr : r = n := by omega
      subst hr
      refine ⟨σ, ?_, kfr_refl _ _ _ _ _⟩
      rw [kb_PM_bounds_8, hT.2.1, if_pos (by rw [nI_leI (by omega) (by omega)]; omega)]
      rfl
    | succ d ih =>
      intro r fu σ hT hd hf
      obtain ⟨f', rfl⟩ : ∃ f', fu = f' + 1 := ⟨fu - 1, by omega⟩
      rw [kb_PM_bounds_8, hT.2.1, if_neg (by rw [nI_leI (by omega) (by omega)]; omega), pb_one hN hT _ sh (nI r) (fG_fbd sh n m t r) (S := fun k => decide (m r ≤ m k)) (Or.inr ⟨r, by omega, rfl, rfl⟩), nI_1]
      have fr : kfr [] [0, 1] [] [] σ (kPQ σ (gB sh n t (fun k => decide (m r ≤ m k)))) := kfr_PQ (by decide) (by decide)
      obtain ⟨s, k1, k2⟩ := ih (r + 1) f' _ (psV_fr fr (by decide) (by decide) (by decide) hT) (by omega) (by omega)
      exact ⟨s, k1, kfr_trans fr k2⟩
  obtain ⟨M, rfl⟩ : ∃ M, N = M + 1 := ⟨N - 1, by omega⟩
  have fr : kfr [] [0, 1] [] [] σ (kPQ σ (gB sh n t (fun _ => false))) := kfr_PQ (by decide) (by decide)
  obtain ⟨s, k1, k2⟩ := lp n 0 M _ (psV_fr fr (by decide) (by decide) (by decide) hT) (by omega) (by omega)
  refine ⟨s, ?_, kfr_trans fr k2⟩
  have e := pb_one hN hT (kb_PM_bounds_8 (M + 1) M) sh (-1) (f := some 0) fG_Z (S := fun _ => false) (Or.inl ⟨rfl, rfl⟩)
  have e0 : kf_PM_bounds (M + 1) σ (bb sh) = kb_PM_bounds_8 (M + 1) (M + 1) σ (bb sh) (zL (pP (some 0))) (zL (pQ (some 0))) (-1) := rfl
  have hneg : ¬ nI n ≤ -1 := by
    rw [Int32.le_iff_toInt_le, nI_toInt (by omega), show (-1 : Int32).toInt = -1 from by decide]
    omega
  rw [e0, kb_PM_bounds_8, hT.2.1, if_neg hneg, e]
  exact k1
