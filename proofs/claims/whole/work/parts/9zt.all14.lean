/-! ALL OF IT, 14: the call act on both -/
/-- the way behind the shape: refused, full, or made -/
theorem j_act60 {N : Nat} {B : Nat} {ta py sc tk pm : kS} {Λ : tQ} {ρ : tR} {τ : tS} {M : mv_M} (h : GM B ta py sc tk pm Λ ρ τ M) (h1 : τ.1 1 = nI (t_n ρ)) (hn : t_n ρ ≤ 50) {o : Nat} {vb : Int32} {x y sa sb : Option Nat} {vo va : Int32} {s z : Nat} {P : Nat → Nat} {L0 : List va_E} (h2 : jf_Sh_ofAct N M (nI o) vb sa sb = some (some s, nx M (5 * L0.length) L0)) (hsh : ∀ n R, (nx M n (L0 ++ R)).2.2 s = some (shL z P)) (cB : c3 P ≤ 64 * 64 * 64) {fs : List Value} {R : List va_E} {k : Nat} :
    (¬ (t_n ρ < 50 ∧ c3 P ≤ 64) → jb_Tp_addAct_60 N M (B + 1) vo va vb x y (nI o) vb sa sb = some (-3, nx M (5 * L0.length) L0)) ∧
    (t_n ρ < 50 → c3 P ≤ 64 → jf_No_init1 N (nx M (5 * L0.length + 13) (L0 ++ [.inr (2, nd0)])) (M.1 + L0.length) (some s) vo va vb x y = some ((), nx M k (L0 ++ .inr (2, fs) :: R)) → jb_Tp_addAct_60 N M (B + 1) vo va vb x y (nI o) vb sa sb = some (nI (t_n ρ), nx (apM B ρ τ M (M.1 + L0.length)) k (L0 ++ .inr (2, fs) :: R))) := by
  obtain ⟨t1, t2⟩ := gm_tape h
  have hB := h.1
  have ob : ∀ (k : Nat) (L : List va_E) {β : Type} (A : Option β), mj_ob (nx M k L) (B + 1) 7 A = A := fun k L β A => nx_ob (by omega) t1
  have hs0 : (nx M (5 * L0.length) L0).2.2 s = some (shL z P) := by
    have := hsh (5 * L0.length) []
    rw [List.append_nil] at this
    exact this
  have room := j_room N (MM := nx M (5 * L0.length) L0) (B := B) (n := t_n ρ) (c := c3 P) (sh := s) hn cB ((nx_old M _ _ (by omega)).trans t1) (by show some (Value.int (τ.1 1)) = _; rw [h1]) hs0 rfl
  unfold jb_Tp_addAct_60 jb_Tp_addAct_106
  rw [h2, mj_callS, mj_optS, ob, room, mj_callS]
  refine ⟨fun w => ?_, fun w1 w2 w3 => ?_⟩
  · rw [bI_f w, if_pos rfl]
  · have ap := j_append h N w1 h1 (m := k) (L := L0 ++ .inr (2, fs) :: R) (fs := fs) (k := L0.length) (apAt L0 (.inr (2, fs) :: R) 0)
    rw [bI_t ⟨w1, w2⟩, if_neg (by decide), mj_nwE, nx_new, show (nx M (5 * L0.length) L0).1 = M.1 + L0.length from rfl, w3, mj_callS, ob, ap, mj_callS]
theorem ca_act {B N : Nat} (hN : 4000 ≤ N) {M : mv_M} (h : G1 B M) (vo va vb : Int32) : RC B M (fun M => jf_PL_act N M B vo va vb) (fun M => jf_PM_act N M (B + 19) vo va vb) := by
  obtain ⟨ta, py, sc, tk, pm, X, Λ, ρ, τ, hg, hr⟩ := h
  obtain ⟨ok, V, fr, pmm, rt, gV, xv, gr, hp, hc, hrr⟩ := id hr.2.2.2.2
  have hn := ok.1
  have tn : t_n ρ = x_n X := hc.1.1
  have h1 : τ.1 1 = nI (t_n ρ) := by rw [tn]; exact hc.1.2.1
  have hnt : t_n ρ ≤ 50 := by rw [tn]; exact hn
  obtain ⟨t1, t2⟩ := gm_tape hg
  obtain ⟨r1, r2⟩ := r_act (N := N) (by omega) ok xv hrr vo va vb
  have pmF : pmm (x_n X) = false := by
    cases hq : pmm (x_n X) with
    | false => rfl
    | true => have := (hp _ hq).1; omega
  have same : ∀ r pm', jf_PL_act N M B vo va vb = some (r, M) → kf_PM_act N pm vo va vb = some (r, pm') → fFt pm pm' → RC B M (fun M => jf_PL_act N M B vo va vb) (fun M => jf_PM_act N M (B + 19) vo va vb) := fun r pm' w1 w2 w3 => by
    refine rc_end (r := r) (pm' := pm') (M1 := M) w1 hg ?_ (fr_Tp hr (R_Tp_fr w3 (by decide) (by decide) (by decide) (by decide) (by decide) (by decide) (by decide) (by decide) (by decide) (by decide) (by decide) hr.2.2.2.2) (kfr_mono w3 (by decide) (by decide) (by decide) (by decide))) (Nat.le_add_right _ _) (Nat.le_add_right _ _)
    show jf_PM_act N _ (B + 19) vo va vb = _
    rw [lf_PM_act, w2]
    rfl
  have head : jf_PL_act N M B vo va vb = mj_call (jb_Tp_addAct_0 N M (B + 1) vo va vb) fun r7 Mm7 => some (r7, Mm7) := by
    unfold jf_PL_act jb_PL_act_0
    rw [(gm_f hg).1, Option.bind_some, Option.bind_some, ob_Tp hg]
    rfl
  by_cases hop : 0 ≤ vo.toInt ∧ vo.toInt ≤ 15
  case neg =>
    refine same (-1) pm ?_ (r1 (fun w => hop w.1)) (kfr_refl _ _ _ _ _)
    rw [head]
    unfold jb_Tp_addAct_0 jb_Tp_addAct_19
    rw [ob_Tp hg]
    rcases v_in va (n := x_n X) (by omega) with ⟨a, ha, rfl⟩ | hv
    · rw [jf_in hg hc.1 ok N ha, mj_callS, lf_Op_isOp, c_op, bI_f hop, mj_callM, if_pos rfl]
      rfl
    · rw [jf_out hg hc.1 ok N hv, mj_callS, lf_Op_isOp, c_op, bI_f hop, mj_callM, if_pos rfl]
      rfl
  obtain ⟨o, ho15, rfl⟩ := nI_ofR (v := vo) (m := 15) hop.1 hop.2
  have h16 : o < 16 := by omega
  rcases v_in va (n := x_n X) (by omega) with ⟨a, ha, rfl⟩ | hv
  case inr =>
    refine same (-1) pm ?_ (r1 (fun w => hv w.2)) (kfr_refl _ _ _ _ _)
    rw [head]
    unfold jb_Tp_addAct_0 jb_Tp_addAct_19
    rw [ob_Tp hg, jf_out hg hc.1 ok N hv, mj_callS, lf_Op_isOp, c_op, bI_t hop, mj_callM, if_neg (by decide), mj_optN]
    rfl
  have ha' : a < t_n ρ := by rw [tn]; exact ha
  obtain ⟨r3, r4⟩ := r2 o a h16 rfl ha rfl
  obtain ⟨fl, fn⟩ := gm_node hg ha'
  have at3 := gm_sh hg hc.1 ha
  have da := (ok.2 a ha).2.1
  have ba : x_s X a ≤ 3 ∧ ∀ k, k < 3 → x_P X a k ≤ 64 := ⟨da.1, fun k hk => (da.2.1 k hk).2⟩
  have gA : mj_getR M (t_A ρ a 0) 2 0 = some (some (t_A ρ a 3)) := mj_getR_of (x := some (t_A ρ a 3)) fn rfl
  have hd2 : jb_Tp_addAct_0 N M (B + 1) (nI o) (nI a) vb = if o < 5 then mj_call (jf_Tp_find N M (B + 1) vb) fun r30 Mm30 => jb_Tp_addAct_37 N Mm30 (B + 1) (nI o) (nI a) vb (some (t_A ρ a 0)) r30 else jb_Tp_addAct_37 N M (B + 1) (nI o) (nI a) vb (some (t_A ρ a 0)) none := by
    unfold jb_Tp_addAct_0
    rw [ob_Tp hg, jf_in hg hc.1 ok N ha, mj_callS, lf_Op_isOp, c_op, bI_t hop, mj_callM, if_neg (show ¬ (1 : Int32) = 0 by decide), mj_optS, lf_Op_isOfTwo, c_two N h16, mj_callM]
    by_cases h5 : o < 5
    · rw [bI_t h5, if_neg (show ¬ (1 : Int32) = 0 by decide), ob_Tp hg, if_pos h5]
    · rw [bI_f h5, if_pos rfl, if_neg h5]
  by_cases h5 : o < 5
  · rcases v_in vb (n := x_n X) (by omega) with ⟨j, hj, rfl⟩ | hv
    case inr =>
      refine same (-1) pm ?_ (r3 ⟨h5, hv⟩) (kfr_refl _ _ _ _ _)
      rw [head, hd2, if_pos h5, jf_out hg hc.1 ok N hv, mj_callS]
      unfold jb_Tp_addAct_37 jb_Tp_addAct_60
      rw [Option.bind_some, gA, Option.bind_some, mj_optN]
      unfold jf_Sh_ofAct jb_Sh_ofAct_0
      rw [lf_Op_isOfTwo, c_two N h16, mj_callM, bI_t h5, if_neg (show ¬ (1 : Int32) = 0 by decide), mj_optN]
      rfl
    have hj' : j < t_n ρ := by rw [tn]; exact hj
    obtain ⟨fl2, fn2⟩ := gm_node hg hj'
    have bt3 := gm_sh hg hc.1 hj
    have dj := (ok.2 j hj).2.1
    have gB : mj_getR M (t_A ρ j 0) 2 0 = some (some (t_A ρ j 3)) := mj_getR_of (x := some (t_A ρ j 3)) fn2 rfl
    have hb : o < 5 → ∃ j', j' < x_n X ∧ nI j = nI j' := fun _ => ⟨j, hj, rfl⟩
    obtain ⟨r5, r6⟩ := r4 hb
    have hd3 : jf_PL_act N M B (nI o) (nI a) (nI j) = mj_call (jb_Tp_addAct_60 N M (B + 1) (nI o) (nI a) (nI j) (some (t_A ρ a 0)) (some (t_A ρ j 0)) (nI o) (nI j) (some (t_A ρ a 3)) (some (t_A ρ j 3))) fun r7 Mm7 => some (r7, Mm7) := by
      rw [head, hd2, if_pos h5, jf_in hg hc.1 ok N hj, mj_callS]
      unfold jb_Tp_addAct_37
      rw [Option.bind_some, gA, Option.bind_some, mj_optS, gB, Option.bind_some]
    obtain ⟨o1, o2⟩ := j_ofAct (N := N) ok h16 ha at3.1.2 at3.2.2 (nI j) (some (t_A ρ j 3)) (Or.inl ⟨h5, j, _, hj, rfl, rfl, bt3.1.2, bt3.2.2⟩)
    cases hk : x_mk X o a (nI j) with
    | none =>
      obtain ⟨pm', q1, q2⟩ := r5 hk
      refine same (-1) pm' ?_ q1 q2
      rw [hd3]
      unfold jb_Tp_addAct_60
      rw [o1 hk]
      rfl
    | some q =>
      obtain ⟨b, z, P⟩ := q
      obtain ⟨m1, m2, m3', m4, z3, m6, m7⟩ := x_mk_ok ok h16 ha hb hk
      obtain ⟨r7, r8⟩ := r6 b z P hk
      obtain ⟨s, L0, p1, p2⟩ := o2 b z P hk
      obtain ⟨g1, g2, g3⟩ := shAt_c (sP := x_s X a) (sA := x_P X a) p2 at3.1.2 at3.2.2
      have bj : j = b := (nI_eq (by omega) (by omega)).mp m1
      subst bj
      have cB : c3 P ≤ 64 * 64 * 64 := Nat.mul_le_mul (Nat.mul_le_mul (m6 0 (by omega)).2 (m6 1 (by omega)).2) (m6 2 (by omega)).2
      by_cases hf : x_n X < 50 ∧ c3 P ≤ 64
      · obtain ⟨w1, w2⟩ := j_act60 hg h1 hnt (x := some (t_A ρ a 0)) (y := some (t_A ρ j 0)) (vo := nI o) (va := nI a) p1 g2 cB (fs := ndA s o a j (t_A ρ a 0) (.ref (t_A ρ j 0)) (M.1 + (L0.length + 1)) (.ref (M.1 + (L0.length + 2))) (w_t o j (x_s X a) (x_P X a)) (M.1 + (L0.length + 3)) (M.1 + (L0.length + 4))) (R := [vwL (w_1 o j (x_s X a) (x_P X a)), vwL (w_2 o (x_P X j)), arz (c3 P), arz (c3 P)]) (k := 5 * L0.length + 13 + 5 + 5 + c3 P + c3 P)
        have e := w2 (by rw [tn]; exact hf.1) hf.2 (j_init1b _ fl fn rfl at3.1.2 at3.2.2 ba fl2 fn2 rfl bt3.1.2 bt3.2.2 (fun k hk => (dj.2.1 k hk).2) h5 hf.2 g1)
        obtain ⟨pm', q1, q2, q3⟩ := r8 hf.1 hf.2
        obtain ⟨Λ', ρ', τ', y1, y2⟩ := g_actB hg ok xv hc pmF h5 ha hj (b := j) p2 hf.2 (5 * L0.length + 13 + 5 + 5 + c3 P + c3 P)
        have ok' : x_ok (xE X o a j z P) := xE_ok ok hf.1 (by omega) ⟨z3, m6, m7, hf.2⟩ (fun _ => ⟨ha, m3', m4⟩)
        refine rc_end (r := nI (x_n X)) (pm' := pm') ?_ y1 ?_ (fr_Tp hr (rtp_new gV gr hp ok' y2 q2) q3) (by show M.1 + (L0 ++ _).length ≤ M.1 + 6; rw [List.length_append]; show M.1 + (L0.length + 5) ≤ _; omega) (by show M.2.1 + (5 * L0.length + 13 + 5 + 5 + c3 P + c3 P) ≤ M.2.1 + 160; omega)
        · show jf_PL_act N M B (nI o) (nI a) (nI j) = _
          rw [hd3, e, mj_callS, tn]
        · show jf_PM_act N _ (B + 19) (nI o) (nI a) (nI j) = _
          rw [lf_PM_act, q1]
          rfl
      · obtain ⟨w1, w2⟩ := j_act60 hg h1 hnt (x := some (t_A ρ a 0)) (y := some (t_A ρ j 0)) (vo := nI o) (va := nI a) p1 g2 cB (fs := []) (R := []) (k := 0)
        obtain ⟨pm', q1, q2⟩ := r7 (by omega)
        refine rc_end (r := -3) (pm' := pm') (M1 := nx M (5 * L0.length) L0) ?_ (GM_nx hg _ _) ?_ (fr_Tp hr (R_Tp_fr q2 (by decide) (by decide) (by decide) (by decide) (by decide) (by decide) (by decide) (by decide) (by decide) (by decide) (by decide) hr.2.2.2.2) (kfr_mono q2 (by decide) (by decide) (by decide) (by decide))) (by show M.1 + L0.length ≤ M.1 + 6; omega) (by show M.2.1 + 5 * L0.length ≤ M.2.1 + 160; omega)
        · show jf_PL_act N M B (nI o) (nI a) (nI j) = _
          rw [hd3, w1 (by rw [tn]; exact hf), mj_callS]
        · show jf_PM_act N _ (B + 19) (nI o) (nI a) (nI j) = _
          rw [lf_PM_act, q1]
          rfl
  · have hb : o < 5 → ∃ j', j' < x_n X ∧ vb = nI j' := fun w => absurd w h5
    obtain ⟨r5, r6⟩ := r4 hb
    have hd3 : jf_PL_act N M B (nI o) (nI a) vb = mj_call (jb_Tp_addAct_60 N M (B + 1) (nI o) (nI a) vb (some (t_A ρ a 0)) none (nI o) vb (some (t_A ρ a 3)) none) fun r7 Mm7 => some (r7, Mm7) := by
      rw [head, hd2, if_neg h5]
      unfold jb_Tp_addAct_37
      rw [Option.bind_some, gA, Option.bind_some, mj_optN]
    obtain ⟨o1, o2⟩ := j_ofAct (N := N) ok h16 ha at3.1.2 at3.2.2 vb none (Or.inr ⟨by omega, rfl⟩)
    cases hk : x_mk X o a vb with
    | none =>
      obtain ⟨pm', q1, q2⟩ := r5 hk
      refine same (-1) pm' ?_ q1 q2
      rw [hd3]
      unfold jb_Tp_addAct_60
      rw [o1 hk]
      rfl
    | some q =>
      obtain ⟨b, z, P⟩ := q
      obtain ⟨m1, m2, m3', m4, z3, m6, m7⟩ := x_mk_ok ok h16 ha hb hk
      obtain ⟨r7, r8⟩ := r6 b z P hk
      obtain ⟨s, L0, p1, p2⟩ := o2 b z P hk
      obtain ⟨g1, g2, g3⟩ := shAt_c (sP := x_s X a) (sA := x_P X a) p2 at3.1.2 at3.2.2
      subst m1
      have fit : (5 ≤ o ∧ o < 8 → b < x_s X a) ∧ (o = 8 → 1 ≤ x_s X a) := by
        have q := m4
        unfold x_fit at q
        rw [if_neg (by omega), if_neg (by omega)] at q
        refine ⟨fun w => ?_, fun w => ?_⟩
        · rw [if_pos w.2] at q
          exact q.1
        · rw [if_neg (by omega), if_pos w] at q
          exact q.1
      have cB : c3 P ≤ 64 * 64 * 64 := Nat.mul_le_mul (Nat.mul_le_mul (m6 0 (by omega)).2 (m6 1 (by omega)).2) (m6 2 (by omega)).2
      by_cases hf : x_n X < 50 ∧ c3 P ≤ 64
      · obtain ⟨w1, w2⟩ := j_act60 hg h1 hnt (x := some (t_A ρ a 0)) (y := none) (vo := nI o) (va := nI a) p1 g2 cB (fs := ndA s o a b (t_A ρ a 0) .null (M.1 + (L0.length + 1)) .null (w_t o b (x_s X a) (x_P X a)) (M.1 + (L0.length + 2)) (M.1 + (L0.length + 3))) (R := [vwL (w_1 o b (x_s X a) (x_P X a)), arz (c3 P), arz (c3 P)]) (k := 5 * L0.length + 13 + 5 + c3 P + c3 P)
        have e := w2 (by rw [tn]; exact hf.1) hf.2 (j_init1a _ fl fn rfl at3.1.2 at3.2.2 ba h16 fit hf.2 g1)
        obtain ⟨pm', q1, q2, q3⟩ := r8 hf.1 hf.2
        obtain ⟨Λ', ρ', τ', y1, y2⟩ := g_actA hg ok xv hc pmF (by omega) h16 ha (b := b) p2 hf.2 (5 * L0.length + 13 + 5 + c3 P + c3 P)
        have ok' : x_ok (xE X o a b z P) := xE_ok ok hf.1 (by omega) ⟨z3, m6, m7, hf.2⟩ (fun _ => ⟨ha, m3', m4⟩)
        refine rc_end (r := nI (x_n X)) (pm' := pm') ?_ y1 ?_ (fr_Tp hr (rtp_new gV gr hp ok' y2 q2) q3) (by show M.1 + (L0 ++ _).length ≤ M.1 + 6; rw [List.length_append]; show M.1 + (L0.length + 4) ≤ _; omega) (by show M.2.1 + (5 * L0.length + 13 + 5 + c3 P + c3 P) ≤ M.2.1 + 160; omega)
        · show jf_PL_act N M B (nI o) (nI a) (nI b) = _
          rw [hd3, e, mj_callS, tn]
        · show jf_PM_act N _ (B + 19) (nI o) (nI a) (nI b) = _
          rw [lf_PM_act, q1]
          rfl
      · obtain ⟨w1, w2⟩ := j_act60 hg h1 hnt (x := some (t_A ρ a 0)) (y := none) (vo := nI o) (va := nI a) p1 g2 cB (fs := []) (R := []) (k := 0)
        obtain ⟨pm', q1, q2⟩ := r7 (by omega)
        refine rc_end (r := -3) (pm' := pm') (M1 := nx M (5 * L0.length) L0) ?_ (GM_nx hg _ _) ?_ (fr_Tp hr (R_Tp_fr q2 (by decide) (by decide) (by decide) (by decide) (by decide) (by decide) (by decide) (by decide) (by decide) (by decide) (by decide) hr.2.2.2.2) (kfr_mono q2 (by decide) (by decide) (by decide) (by decide))) (by show M.1 + L0.length ≤ M.1 + 6; omega) (by show M.2.1 + 5 * L0.length ≤ M.2.1 + 160; omega)
        · show jf_PL_act N M B (nI o) (nI a) (nI b) = _
          rw [hd3, w1 (by rw [tn]; exact hf), mj_callS]
        · show jf_PM_act N _ (B + 19) (nI o) (nI a) (nI b) = _
          rw [lf_PM_act, q1]
          rfl
