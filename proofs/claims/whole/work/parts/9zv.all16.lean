/-! ALL OF IT, 16: the turns of the law -/
def LQ (a b : Nat) (t : Option (Int32 × mv_M)) : Prop := ∃ M1, t = some (1, M1) ∧ M1.1 ≤ a ∧ M1.2.1 ≤ b
theorem lw_if {a b : Nat} {c : Prop} {p : Decidable c} {x y : Option (Int32 × mv_M)} (h1 : c → LQ a b x) (h2 : ¬ c → LQ a b y) : LQ a b (@ite _ c p x y) := by
  by_cases h : c
  · rw [if_pos h]
    exact h1 h
  · rw [if_neg h]
    exact h2 h
theorem lw_b {a b : Nat} {x : Option Int32} {y : Int32} {k : Int32 → Option (Int32 × mv_M)} (h : x = some y) (hq : LQ a b (k y)) : LQ a b (Option.bind x k) := by
  subst h
  exact hq
theorem lw_c {α : Type} {a b B : Nat} {M : mv_M} {f g : mv_M → Option (α × mv_M)} {F : α → mv_M → Option (Int32 × mv_M)} (hB : mj_is M B 0 = true) (h : RC B M f g) (hF : ∀ r Mm M2, mj_is Mm (B + 19) 1 = true → g Mm = some (r, M2) → G1 B M2 → M2.1 ≤ M.1 + 6 → M2.2.1 ≤ M.2.1 + 160 → LQ a b (F r Mm)) : LQ a b (mj_ob M B 0 (mj_call (f M) F)) := by
  obtain ⟨r, M1, M2, e1, e2, e3, h1, h2, h3⟩ := h
  rw [mj_obI hB, e1, mj_callS]
  exact hF r M1 M2 e2 e3 h1 h2 h3
theorem lw_d {a b B : Nat} {Mm M2 : mv_M} {t : Option (Int32 × mv_M)} {r : Int32} {k : mv_M → Option (Int32 × mv_M)} (e2 : mj_is Mm (B + 19) 1 = true) (e3 : t = some (r, M2)) (hq : LQ a b (k M2)) : LQ a b (mj_ob Mm (B + 19) 1 (mj_call t fun r' Mm' => if r = r' then k Mm' else some (0, Mm'))) := by
  rw [mj_obI e2, e3, mj_callS, if_pos rfl]
  exact hq
theorem lw_l {a b B : Nat} {Mm M2 : mv_M} {t : Option (Int64 × mv_M)} {r : Int64} {k : mv_M → Option (Int32 × mv_M)} (e2 : mj_is Mm (B + 19) 1 = true) (e3 : t = some (r, M2)) (hq : LQ a b (k M2)) : LQ a b (mj_ob Mm (B + 19) 1 (mj_call t fun r' Mm' => if (lg_cmp r r') = 0 then k Mm' else some (0, Mm'))) := by
  rw [mj_obI e2, e3, mj_callS, if_pos ((lg_eq0 r r).mpr rfl)]
  exact hq
theorem G1_is {B : Nat} {M : mv_M} (h : G1 B M) : mj_is M B 0 = true := by
  obtain ⟨ta, py, sc, tk, pm, X, Λ, ρ, τ, hg, hr⟩ := h
  exact gm_is hg
theorem lw_end {n i : Nat} (hn : n ≤ 3072) (hi : i < 2 ^ 30) : (Int32.ofNat n) - 6 < nI i ↔ n < i + 6 := by
  by_cases h : 6 ≤ n
  · rw [show (Int32.ofNat n) - 6 = nI (n - 6) from nI_sub (show 6 ≤ n from h), nI_ltI (by omega) (by omega)]
    omega
  · have : n = 0 ∨ n = 1 ∨ n = 2 ∨ n = 3 ∨ n = 4 ∨ n = 5 := by omega
    rcases this with e | e | e | e | e | e <;> subst e <;> rw [i32lt, nI_toInt (by omega)] <;> refine ⟨fun _ => by omega, fun _ => ?_⟩
    · show (-6 : Int) < _; omega
    · show (-5 : Int) < _; omega
    · show (-4 : Int) < _; omega
    · show (-3 : Int) < _; omega
    · show (-2 : Int) < _; omega
    · show (-1 : Int) < _; omega
theorem lw_loop {N : Nat} (hN : 4000 ≤ N) {sa : (Nat → Nat) × Nat × (Nat → Int32)} (hs : sa.2.1 ≤ 3072) {B : Nat} : ∀ (fu i : Nat) (M : mv_M), sa.2.1 < 6 * (i + fu) → 6 * i ≤ sa.2.1 → G1 B M → LQ (M.1 + 6 * fu) (M.2.1 + 160 * fu) (jb_LW_law_18 N sa fu M B (B + 19) (nI (6 * i))) := by
  intro fu
  induction fu with
  | zero =>
    intro i M hf hi hG
    omega
  | succ n ih =>
    intro i M hf hi hG
    rw [jb_LW_law_18]
    refine lw_if (fun _ => ⟨M, rfl, by omega, by omega⟩) (fun he => ?_)
    rw [lw_end hs (by omega)] at he
    have hB := G1_is hG
    have tb : ∀ k, k < 6 → mj_tab sa.2.2 sa.2.1 (nI (6 * i) + nI k) = some (sa.2.2 (6 * i + k)) := fun k hk => by
      rw [nI_add, mj_tab_nI (by omega) (by omega)]
    have tb1 : mj_tab sa.2.2 sa.2.1 (nI (6 * i) + 1) = some (sa.2.2 (6 * i + 1)) := tb 1 (by omega)
    have tb2 : mj_tab sa.2.2 sa.2.1 (nI (6 * i) + 2) = some (sa.2.2 (6 * i + 2)) := tb 2 (by omega)
    have tb3 : mj_tab sa.2.2 sa.2.1 (nI (6 * i) + 3) = some (sa.2.2 (6 * i + 3)) := tb 3 (by omega)
    have tb4 : mj_tab sa.2.2 sa.2.1 (nI (6 * i) + 4) = some (sa.2.2 (6 * i + 4)) := tb 4 (by omega)
    have tb5 : mj_tab sa.2.2 sa.2.1 (nI (6 * i) + 5) = some (sa.2.2 (6 * i + 5)) := tb 5 (by omega)
    have nx : ∀ M2, G1 B M2 → M2.1 ≤ M.1 + 6 → M2.2.1 ≤ M.2.1 + 160 → LQ (M.1 + 6 * (n + 1)) (M.2.1 + 160 * (n + 1)) (jb_LW_law_1112 N sa (jb_LW_law_18 N sa n) M2 B (B + 19) (nI (6 * i))) := fun M2 g b1 b2 => by
      unfold jb_LW_law_1112
      obtain ⟨M3, q1, q2, q3⟩ := ih (i + 1) M2 (by omega) (by omega) g
      refine ⟨M3, ?_, by omega, by omega⟩
      rw [← q1, show (6 : Int32) = nI 6 from rfl, nI_add]
      rfl
    refine lw_b (mj_tab_nI (by omega) (by omega)) ?_
    refine lw_if (fun _ => lw_b tb1 (lw_b tb2 (lw_b tb3 (lw_b tb4 (lw_c hB (ca_leaf hN hG _ _ _ _) (fun r Mm M2 e2 e3 g b1 b2 => lw_b tb1 (lw_b tb2 (lw_b tb3 (lw_b tb4 (lw_d e2 e3 (nx M2 g b1 b2))))))))))) (fun _ => ?_)
    refine lw_if (fun _ => lw_b tb1 (lw_b tb2 (lw_b tb3 (lw_b tb4 (lw_c hB (ca_tell hN hG _ _ _ _) (fun r Mm M2 e2 e3 g b1 b2 => lw_b tb1 (lw_b tb2 (lw_b tb3 (lw_b tb4 (lw_d e2 e3 (nx M2 g b1 b2))))))))))) (fun _ => ?_)
    refine lw_if (fun _ => lw_b tb1 (lw_b tb2 (lw_b tb3 (lw_c hB (ca_act hN hG _ _ _) (fun r Mm M2 e2 e3 g b1 b2 => lw_b tb1 (lw_b tb2 (lw_b tb3 (lw_d e2 e3 (nx M2 g b1 b2))))))))) (fun _ => ?_)
    refine lw_if (fun _ => lw_b tb1 (lw_b tb2 (lw_c hB (ca_node hN hG _ _) (fun r Mm M2 e2 e3 g b1 b2 => lw_b tb1 (lw_b tb2 (lw_d e2 e3 (nx M2 g b1 b2))))))) (fun _ => ?_)
    refine lw_if (fun _ => lw_b tb1 (lw_b tb2 (lw_b tb3 (lw_c hB (ca_value hN hG _ _ _) (fun r Mm M2 e2 e3 g b1 b2 => lw_b tb1 (lw_b tb2 (lw_b tb3 (lw_l e2 e3 (nx M2 g b1 b2))))))))) (fun _ => ?_)
    refine lw_if (fun _ => lw_b tb1 (lw_b tb2 (lw_b tb3 (lw_b tb4 (lw_c hB (ca_slope hN hG _ _ _ _) (fun r Mm M2 e2 e3 g b1 b2 => lw_b tb1 (lw_b tb2 (lw_b tb3 (lw_b tb4 (lw_l e2 e3 (nx M2 g b1 b2))))))))))) (fun _ => ?_)
    refine lw_if (fun _ => lw_b tb1 (lw_b tb2 (lw_c hB (ca_ways hN hG _ _) (fun r Mm M2 e2 e3 g b1 b2 => lw_b tb1 (lw_b tb2 (lw_l e2 e3 (nx M2 g b1 b2))))))) (fun _ => ?_)
    refine lw_if (fun _ => lw_b tb1 (lw_b tb2 (lw_if (fun c => ?_) (fun c => ?_)))) (fun _ => ?_)
    · exact lw_c hB (ca_parameter hN hG _ false) (fun r Mm M2 e2 e3 g b1 b2 => lw_b tb1 (lw_b tb2 (lw_if (fun _ => lw_d e2 e3 (nx M2 g b1 b2)) (fun c2 => absurd c c2))))
    · exact lw_c hB (ca_parameter hN hG _ true) (fun r Mm M2 e2 e3 g b1 b2 => lw_b tb1 (lw_b tb2 (lw_if (fun c2 => absurd c2 c) (fun _ => lw_d e2 e3 (nx M2 g b1 b2)))))
    refine lw_if (fun _ => lw_b tb1 (lw_b tb2 (lw_c hB (ca_rate hN hG _ _) (fun r Mm M2 e2 e3 g b1 b2 => lw_b tb1 (lw_b tb2 (lw_d e2 e3 (nx M2 g b1 b2))))))) (fun _ => ?_)
    refine lw_if (fun _ => lw_b tb1 (lw_b tb2 (lw_c hB (ca_train hN hG _ _) (fun r Mm M2 e2 e3 g b1 b2 => lw_b tb1 (lw_b tb2 (lw_d e2 e3 (nx M2 g b1 b2))))))) (fun _ => ?_)
    refine lw_if (fun _ => lw_b tb1 (lw_b tb2 (lw_b tb3 (lw_b tb4 (lw_b tb5 (lw_c hB (ca_row hN hG _ _ _ _ _) (fun r Mm M2 e2 e3 g b1 b2 => lw_b tb1 (lw_b tb2 (lw_b tb3 (lw_b tb4 (lw_b tb5 (lw_d e2 e3 (nx M2 g b1 b2))))))))))))) (fun _ => ?_)
    refine lw_if (fun _ => lw_b tb1 (lw_c hB (ca_cut hN hG _) (fun r Mm M2 e2 e3 g b1 b2 => lw_b tb1 (lw_d e2 e3 (nx M2 g b1 b2))))) (fun _ => ?_)
    refine lw_if (fun _ => lw_b tb1 (lw_b tb2 (lw_b tb3 (lw_c hB (ca_cost hN hG _ _ _) (fun r Mm M2 e2 e3 g b1 b2 => lw_b tb1 (lw_b tb2 (lw_b tb3 (lw_l e2 e3 (nx M2 g b1 b2))))))))) (fun _ => ?_)
    refine lw_if (fun _ => lw_c hB (ca_best hN hG) (fun r Mm M2 e2 e3 g b1 b2 => lw_d e2 e3 (nx M2 g b1 b2))) (fun _ => ?_)
    refine lw_if (fun _ => lw_c hB (ca_clear hN hG) (fun r Mm M2 e2 e3 g b1 b2 => lw_d e2 e3 (nx M2 g b1 b2))) (fun _ => ?_)
    refine lw_if (fun _ => lw_b tb1 (lw_c hB (ca_game hN hG _) (fun r Mm M2 e2 e3 g b1 b2 => lw_b tb1 (lw_d e2 e3 (nx M2 g b1 b2))))) (fun _ => ?_)
    refine lw_if (fun _ => lw_b tb1 (lw_b tb2 (lw_c hB (ca_worth hN hG _ _) (fun r Mm M2 e2 e3 g b1 b2 => lw_b tb1 (lw_b tb2 (lw_d e2 e3 (nx M2 g b1 b2))))))) (fun _ => ?_)
    refine lw_if (fun _ => lw_b tb1 (lw_b tb2 (lw_c hB (ca_share hN hG _ _) (fun r Mm M2 e2 e3 g b1 b2 => lw_b tb1 (lw_b tb2 (lw_l e2 e3 (nx M2 g b1 b2))))))) (fun _ => ?_)
    refine lw_if (fun _ => lw_b tb1 (lw_b tb2 (lw_if (fun c => ?_) (fun c => ?_)))) (fun _ => ?_)
    · exact lw_c hB (ca_pair hN hG _ _) (fun r Mm M2 e2 e3 g b1 b2 => lw_b tb1 (lw_b tb2 (lw_if (fun _ => lw_d e2 e3 (nx M2 g b1 b2)) (fun c2 => absurd c c2))))
    · exact lw_c hB (ca_pair hN hG _ _) (fun r Mm M2 e2 e3 g b1 b2 => lw_b tb1 (lw_b tb2 (lw_if (fun c2 => absurd c2 c) (fun _ => lw_d e2 e3 (nx M2 g b1 b2)))))
    refine lw_if (fun _ => lw_b tb1 (lw_b tb2 (lw_c hB (ca_score hN hG _ _) (fun r Mm M2 e2 e3 g b1 b2 => lw_b tb1 (lw_b tb2 (lw_l e2 e3 (nx M2 g b1 b2))))))) (fun _ => ?_)
    refine lw_if (fun _ => lw_c hB (ca_forget hN hG) (fun r Mm M2 e2 e3 g b1 b2 => lw_d e2 e3 (nx M2 g b1 b2))) (fun _ => ?_)
    refine lw_if (fun _ => lw_b tb1 (lw_b tb2 (lw_b tb3 (lw_c hB (ca_feed hN hG _ _) (fun r Mm M2 e2 e3 g b1 b2 => lw_b tb1 (lw_b tb2 (lw_b tb3 (lw_d e2 e3 (nx M2 g b1 b2))))))))) (fun _ => ?_)
    refine lw_if (fun _ => lw_c hB (ca_empty hN hG) (fun r Mm M2 e2 e3 g b1 b2 => lw_d e2 e3 (nx M2 g b1 b2))) (fun _ => ?_)
    refine lw_if (fun _ => lw_c hB (ca_merge hN hG) (fun r Mm M2 e2 e3 g b1 b2 => lw_d e2 e3 (nx M2 g b1 b2))) (fun _ => ?_)
    refine lw_if (fun _ => lw_b tb1 (lw_b tb2 (lw_c hB (ca_merged hN hG _ _) (fun r Mm M2 e2 e3 g b1 b2 => lw_b tb1 (lw_b tb2 (lw_d e2 e3 (nx M2 g b1 b2))))))) (fun _ => ?_)
    refine lw_if (fun _ => lw_c hB (ca_encode hN hG) (fun r Mm M2 e2 e3 g b1 b2 => lw_d e2 e3 (nx M2 g b1 b2))) (fun _ => ?_)
    refine lw_if (fun _ => lw_b tb1 (lw_c hB (ca_token hN hG _) (fun r Mm M2 e2 e3 g b1 b2 => lw_b tb1 (lw_d e2 e3 (nx M2 g b1 b2))))) (fun _ => ?_)
    refine lw_if (fun _ => lw_b tb1 (lw_c hB (ca_count hN hG _) (fun r Mm M2 e2 e3 g b1 b2 => lw_b tb1 (lw_d e2 e3 (nx M2 g b1 b2))))) (fun _ => ?_)
    exact nx M hG (by omega) (by omega)
