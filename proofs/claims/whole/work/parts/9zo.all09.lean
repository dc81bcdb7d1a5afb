/-! ALL OF IT, 9: the call leaf, made -/
abbrev nd0 : List Value := [.null, .int 0, .int 0, .int 0, .null, .null, .null, .null, .int 0, .null, .null, .int 0, .long 0]
abbrev ar0 (c : Nat) (x : Int64) : va_E := .inl (1, c, .inr (.inl (fun j => if j < c then x else 0)))
abbrev arz (c : Nat) : va_E := .inl (1, c, .inr (.inl (fun _ => 0)))
theorem j_room (N : Nat) {MM : mv_M} {B n c sh : Nat} {fs gs : List Value} (hn : n ≤ 50) (hc : c ≤ 64 * 64 * 64) (h1 : MM.2.2 (B + 1) = some (.inr (7, fs))) (h2 : fs[1]? = some (.int (nI n))) (h3 : MM.2.2 sh = some (.inr (5, gs))) (h4 : gs[4]? = some (.int (nI c))) : jf_Tp_hasRoom N MM (B + 1) (some sh) = some (bI (n < 50 ∧ c ≤ 64), MM) := by
  unfold jf_Tp_hasRoom jb_Tp_hasRoom_0 jb_Tp_hasRoom_22 jb_Tp_hasRoom_23
  rw [mj_getI_of h1 h2, Option.bind_some]
  by_cases e1 : n < 50
  · rw [if_neg (by rw [show (50 : Int32) = nI 50 from rfl, nI_leI (by omega) (by omega)]; omega), Option.bind_some, mj_getI_of h3 h4, Option.bind_some]
    by_cases e2 : c ≤ 64
    · rw [if_neg (by rw [show (64 : Int32) = nI 64 from rfl, nI_ltI (by omega) (by omega)]; omega), bI_t ⟨e1, e2⟩]
      rfl
    · rw [if_pos (by rw [show (64 : Int32) = nI 64 from rfl, nI_ltI (by omega) (by omega)]; omega), bI_f (fun w => e2 w.2)]
      rfl
  · rw [if_pos (by rw [show (50 : Int32) = nI 50 from rfl, nI_leI (by omega) (by omega)]; omega), bI_f (fun w => e1 w.1)]
    rfl
theorem nx_naN {β : Type} {M : mv_M} {n c : Nat} {L0 R : List va_E} {x : va_E} (hc : c ≤ 64) (f : Nat → mv_M → Option β) : mj_na (nx M n (L0 ++ x :: R)) 1 (nI c) ((nI c).toNatClampNeg, .inr (.inl (fun _ => 0))) f = f (M.1 + (L0.length + (R.length + 1))) (nx M (n + c) (L0 ++ x :: (R ++ [arz c]))) := by
  rw [nx_na hc, List.append_assoc, List.cons_append, List.length_append, List.length_cons]
theorem mj_nwE {β : Type} (M : mv_M) (ci n : Nat) (fs : List Value) (f : Nat → mv_M → Option β) : mj_nw M ci n fs f = f M.1 (mj_new M ci n fs) := rfl
abbrev ndL (M1 : Nat) : List Value := [.ref M1, .int (-2), .int (-2), .int (-2), .null, .null, .null, .null, .int 0, .ref (M1 + 2), .ref (M1 + 3), .int 0, .long 0]
theorem j_init0 {N : Nat} (hN : 300 ≤ N) (M : mv_M) {z : Nat} {P : Nat → Nat} (hc : c3 P ≤ 64) (n : Nat) : jf_No_init0 N (nx M n ([shL z P] ++ [.inr (2, nd0)])) (M.1 + [shL z P].length) (some M.1) = some ((), nx M (n + c3 P + c3 P) [shL z P, .inr (2, ndL M.1), ar0 (c3 P) 1, arz (c3 P)]) := by
  have gc : ∀ (k : Nat) (R : List va_E), mj_getI (nx M k ([shL z P] ++ R)) M.1 5 4 = some (nI (c3 P)) := fun k R => nx_getI (M := M) (n := k) (k := 0) (L := [shL z P] ++ R) (fs := [.int (nI z), .int (nI (P 0)), .int (nI (P 1)), .int (nI (P 2)), .int (nI (c3 P))]) rfl rfl
  have fl := nx_fill hN (M := M) (n := n + c3 P + c3 P) (k := 2) (L := [shL z P, .inr (2, ndL M.1), arz (c3 P), arz (c3 P)]) hc rfl 1
  unfold jf_No_init0 jb_No_init0_0
  rw [nx_pN (Nat.le_of_ble_eq_true rfl), Option.bind_some, nx_pN (Nat.le_of_ble_eq_true rfl), Option.bind_some, nx_pN (Nat.le_of_ble_eq_true rfl), Option.bind_some, nx_pN (Nat.le_of_ble_eq_true rfl), Option.bind_some, nx_pN (Nat.le_of_ble_eq_true rfl), Option.bind_some, nx_pN (Nat.le_of_ble_eq_true rfl), Option.bind_some, nx_pN (Nat.le_of_ble_eq_true rfl), Option.bind_some, nx_pN (Nat.le_of_ble_eq_true rfl), Option.bind_some, nx_pN (Nat.le_of_ble_eq_true rfl), Option.bind_some, Option.bind_some, gc, Option.bind_some, nx_naN hc, nx_pN (Nat.le_of_ble_eq_true rfl), Option.bind_some, gc, Option.bind_some, nx_naN hc, nx_pN (Nat.le_of_ble_eq_true rfl), Option.bind_some, nx_gN (x := some (M.1 + 2)) rfl, Option.bind_some]
  show mj_call (jf_Ja_fill1 N (nx M (n + c3 P + c3 P) [shL z P, .inr (2, ndL M.1), arz (c3 P), arz (c3 P)]) (some (M.1 + 2)) 1) _ = _
  rw [fl]
  rfl
/-- leaf of the class: refused, full, or made -/
theorem j_leaf {N : Nat} (hN : 300 ≤ N) {B : Nat} {ta py sc tk pm : kS} {Λ : tQ} {ρ : tR} {τ : tS} {M : mv_M} (h : GM B ta py sc tk pm Λ ρ τ M) (h1 : τ.1 1 = nI (t_n ρ)) (hn : t_n ρ ≤ 50) (v a b c : Int32) :
    (¬ (0 ≤ v.toInt ∧ v.toInt ≤ 3) → jf_PL_leaf N M B v a b c = some (-1, M)) ∧
    ∀ z, v = nI z → z ≤ 3 →
      ((∃ q, q < z ∧ ¬ (1 ≤ (ar3 a b c q).toInt ∧ (ar3 a b c q).toInt ≤ 64)) → jf_PL_leaf N M B v a b c = some (-1, M)) ∧
      ((∀ q, q < z → 1 ≤ (ar3 a b c q).toInt ∧ (ar3 a b c q).toInt ≤ 64) → ∀ P, P = pd3 z (fun q => (ar3 a b c q).toNatClampNeg) → c3 P ≤ 64 * 64 * 64 →
        (¬ (t_n ρ < 50 ∧ c3 P ≤ 64) → jf_PL_leaf N M B v a b c = some (-3, nx M 5 [shL z P])) ∧
        (t_n ρ < 50 → c3 P ≤ 64 → jf_PL_leaf N M B v a b c = some (nI (t_n ρ), nx (apM B ρ τ M (M.1 + 1)) (18 + c3 P + c3 P) [shL z P, .inr (2, ndL M.1), ar0 (c3 P) 1, arz (c3 P)]))) := by
  obtain ⟨t1, t2⟩ := gm_tape h
  have hB := h.1
  have ob : ∀ (k : Nat) (L : List va_E) {β : Type} (A : Option β), mj_ob (nx M k L) (B + 1) 7 A = A := fun k L β A => nx_ob (by omega) t1
  unfold jf_PL_leaf jb_PL_leaf_0
  rw [(gm_f h).1, Option.bind_some]
  have bad : ∀ v, jf_Sh_told N M v a b c = some (none, M) → (mj_call (jf_Sh_told N M v a b c) fun r9 Mm9 => Option.bind (some (B + 1)) fun a12 => mj_ob Mm9 a12 7 (mj_call (jf_Tp_addLeaf N Mm9 a12 r9) fun r12 Mm12 => some (r12, Mm12))) = some (-1, M) := fun v hv => by
    rw [hv, mj_callS, Option.bind_some, mj_ob_of t1]
    rfl
  refine ⟨fun hb => bad v (j_told_bad N M v a b c hb), fun z e hz => ?_⟩
  subst e
  obtain ⟨j1, j2⟩ := j_told N M hz a b c
  refine ⟨fun hb => bad (nI z) (j1 hb), fun hg P hP cB => ?_⟩
  have jt := j2 hg
  rw [← hP] at jt
  have room := j_room N (MM := nx M 5 [shL z P]) (B := B) (n := t_n ρ) (c := c3 P) (sh := M.1) hn cB ((nx_old M 5 _ (by omega)).trans t1) (by show some (Value.int (τ.1 1)) = _; rw [h1]) (nx_at M 5 [shL z P] (k := 0) (Nat.le_of_ble_eq_true rfl)) rfl
  rw [jt, mj_callS, Option.bind_some, ob]
  unfold jf_Tp_addLeaf jb_Tp_addLeaf_0 jb_Tp_addLeaf_31
  rw [mj_optS, ob, room, mj_callS]
  refine ⟨fun w => ?_, fun w1 w2 => ?_⟩
  · rw [bI_f w, if_pos rfl]
    rfl
  · have ap := j_append h N w1 h1 (m := 18 + c3 P + c3 P) (L := [shL z P, .inr (2, ndL M.1), ar0 (c3 P) 1, arz (c3 P)]) (k := 1) rfl
    rw [bI_t ⟨w1, w2⟩, if_neg (by decide)]
    rw [mj_nwE, nx_new, show (nx M 5 [shL z P]).1 = M.1 + [shL z P].length from rfl, j_init0 hN M w2 (5 + 13), mj_callS, ob, show 5 + 13 + c3 P + c3 P = 18 + c3 P + c3 P from rfl, show [shL z P].length = 1 from rfl, ap]
    rfl
theorem rtp_new {X : tX} {V : tF} {fr : Nat} {pmm : Nat → Bool} {rt : Option Rat} {ρ' : tR} {τ' : tS} {pm' : kS} {o a b z : Nat} {P : Nat → Nat} (gV : gF V) (gr : fG rt) (hp : ∀ j, pmm j = true → j < x_n X ∧ x_o X j = 16) (ok' : x_ok (xE X o a b z P)) (hc : cTp (xE X o a b z P) (VE X V o a b z P) fr pmm rt ρ' τ') (hr : rTp (xE X o a b z P) (VE X V o a b z P) pmm rt pm') : R_Tp (xE X o a b z P) ρ' τ' pm' :=
  ⟨ok', VE X V o a b z P, fr, pmm, rt, VE_g gV o a b z P, VE_x ok', gr, fun j hj => by
    obtain ⟨q1, q2⟩ := hp j hj
    exact ⟨by rw [xE_n]; omega, (xE_eq X o a b z P j q1).1.trans q2⟩, hc, hr⟩
theorem ca_leaf {B N : Nat} (hN : 4000 ≤ N) {M : mv_M} (h : G1 B M) (v a b c : Int32) : RC B M (fun M => jf_PL_leaf N M B v a b c) (fun M => jf_PM_leaf N M (B + 19) v a b c) := by
  obtain ⟨ta, py, sc, tk, pm, X, Λ, ρ, τ, hg, hr⟩ := h
  obtain ⟨ok, V, fr, pmm, rt, gV, xv, gr, hp, hc, hrr⟩ := id hr.2.2.2.2
  have hn := ok.1
  have tn : t_n ρ = x_n X := hc.1.1
  have h1 : τ.1 1 = nI (t_n ρ) := by rw [tn]; exact hc.1.2.1
  obtain ⟨j1, j2⟩ := j_leaf (N := N) (by omega) hg h1 (by rw [tn]; exact hn) v a b c
  obtain ⟨r1, r2⟩ := r_leaf (N := N) (by omega) ok xv hrr v a b c
  have same : ∀ r, jf_PL_leaf N M B v a b c = some (r, M) → kf_PM_leaf N pm v a b c = some (r, pm) → RC B M (fun M => jf_PL_leaf N M B v a b c) (fun M => jf_PM_leaf N M (B + 19) v a b c) := fun r w1 w2 => by
    refine rc_end (r := r) (pm' := pm) (M1 := M) w1 hg ?_ hr (Nat.le_add_right _ _) (Nat.le_add_right _ _)
    show jf_PM_leaf N _ (B + 19) v a b c = _
    rw [lf_PM_leaf, w2]
    rfl
  by_cases hv : 0 ≤ v.toInt ∧ v.toInt ≤ 3
  case neg => exact same (-1) (j1 hv) (r1 hv)
  obtain ⟨z, hz, rfl⟩ := nI_ofR (v := v) (m := 3) hv.1 hv.2
  obtain ⟨j3, j4⟩ := j2 z rfl hz
  obtain ⟨r3, r4⟩ := r2 z rfl hz
  by_cases hb : ∃ q, q < z ∧ ¬ (1 ≤ (ar3 a b c q).toInt ∧ (ar3 a b c q).toInt ≤ 64)
  · exact same (-1) (j3 hb) (r3 hb)
  have hgd : ∀ q, q < z → 1 ≤ (ar3 a b c q).toInt ∧ (ar3 a b c q).toInt ≤ 64 := fun q hq => by
    by_cases w : 1 ≤ (ar3 a b c q).toInt ∧ (ar3 a b c q).toInt ≤ 64
    · exact w
    · exact absurd ⟨q, hq, w⟩ hb
  obtain ⟨P, hP⟩ : ∃ P, P = pd3 z (fun q => (ar3 a b c q).toNatClampNeg) := ⟨_, rfl⟩
  have dq : ∀ q, q < z → 1 ≤ (ar3 a b c q).toNatClampNeg ∧ (ar3 a b c q).toNatClampNeg ≤ 64 := fun q hq => by
    have g := hgd q hq
    obtain ⟨w1, w2, w3⟩ := v_clamp (v := ar3 a b c q) (m := 64) (by omega) g.2 (by omega)
    omega
  have cB : c3 P ≤ 64 * 64 * 64 := by
    have p : ∀ k, k < 3 → P k ≤ 64 := fun k hk => by
      rw [hP]
      unfold pd3
      split
      · omega
      · exact (dq _ (by omega)).2
    exact Nat.mul_le_mul (Nat.mul_le_mul (p 0 (by omega)) (p 1 (by omega))) (p 2 (by omega))
  obtain ⟨j5, j6⟩ := j4 hgd P hP cB
  obtain ⟨r5, r6⟩ := r4 hgd
  rw [← hP] at r5 r6
  rw [tn] at j5 j6
  by_cases hf : x_n X < 50 ∧ c3 P ≤ 64
  case neg =>
    refine rc_end (r := -3) (pm' := pm) (M1 := nx M 5 [shL z P]) (j5 hf) (GM_nx hg 5 _) ?_ hr (by show M.1 + 1 ≤ M.1 + 6; omega) (by show M.2.1 + 5 ≤ M.2.1 + 160; omega)
    show jf_PM_leaf N _ (B + 19) (nI z) a b c = _
    rw [lf_PM_leaf, r5 (by omega)]
    rfl
  obtain ⟨pm', q1, q2, q3⟩ := r6 hf.1 hf.2
  have sh : x_sh z P := by
    rw [hP]
    rw [hP] at hf
    exact pd3_sh hz dq hf.2
  have ok' : x_ok (xE X 16 0 0 z P) := xE_ok ok hf.1 (Nat.le_refl _) sh (fun w => absurd w (by omega))
  have pmF : pmm (x_n X) = false := by
    cases hq : pmm (x_n X) with
    | false => rfl
    | true => have := (hp _ hq).1; omega
  obtain ⟨aA, haA⟩ : ∃ aA : Nat → Nat, aA = fun c => if c = 0 then M.1 + 1 else if c = 1 then M.1 + 2 else if c = 2 then M.1 + 3 else M.1 := ⟨_, rfl⟩
  obtain ⟨hH, hhH⟩ : ∃ hH : Nat → Int32, hH = fun f => if f = 0 then nI z else if f = 1 then nI (P 0) else if f = 2 then nI (P 1) else if f = 3 then nI (P 2) else nI (c3 P) := ⟨_, rfl⟩
  obtain ⟨iN, hiN⟩ : ∃ iN : Nat → Int32, iN = fun f => if f = 1 ∨ f = 2 ∨ f = 3 then -2 else 0 := ⟨_, rfl⟩
  obtain ⟨vN, hvN⟩ : ∃ vN : Nat → Nat → Int64, vN = fun f c' => if f = 9 then (if c' < c3 P then 1 else 0) else 0 := ⟨_, rfl⟩
  have h4 : hH 4 = nI (c3 P) := by rw [hhH]; rfl
  have nd : t_node (rE ρ (fun _ => none) hH (fun _ => none) aA) (tE (t_n ρ) τ iN vN) (t_n ρ) = ndL M.1 := by
    have hA : ∀ c, t_A (rE ρ (fun _ => none) hH (fun _ => none) aA) (t_n ρ) c = aA c := fun c => if_pos rfl
    have hR' : ∀ f, t_R (rE ρ (fun _ => none) hH (fun _ => none) aA) (t_n ρ) f = none := fun f => if_pos rfl
    have hW : ∀ f, t_W (rE ρ (fun _ => none) hH (fun _ => none) aA) (t_n ρ) f = none := fun f => if_pos rfl
    have hI : (tE (t_n ρ) τ iN vN).2.2.1 (t_n ρ) = iN := if_pos rfl
    have hQ : (tE (t_n ρ) τ iN vN).2.2.2.1 (t_n ρ) = fun _ => 0 := if_pos rfl
    unfold t_node
    rw [hA 3, hR' 4, hR' 5, hW 6, hW 7, hA 1, hA 2, hI, hQ, haA, hiN]
    rfl
  have gm := g_fin hg (rR := fun _ => none) (hH := hH) (wW := fun _ => none) (aA := aA) (iN := iN) (vN := vN) (fun f j w => by cases w) (m := 18 + c3 P + c3 P) (L := [shL z P, .inr (2, ndL M.1), ar0 (c3 P) 1, arz (c3 P)]) (k0 := 1) (k1 := 2) (k2 := 3) (by rw [haA]; rfl) (by rw [haA]; rfl) (by rw [haA]; rfl) (by omega) (by rw [nd]; rfl) (by rw [h4, nI_clamp (by omega), hvN]; rfl) (by rw [h4, nI_clamp (by omega), hvN]; rfl) (Or.inl ⟨0, by rw [haA]; rfl, by rw [hhH]; rfl⟩) (fun f v w => by cases w)
  have ct := cTp_new (aA := aA) ok xv hc (o := 16) (a := 0) (b := 0) (z := z) (P := P) (Nat.le_refl _) (fun w => absurd w (by omega)) (fun w => absurd w (by omega)) pmF (rR := fun _ => none) (hH := hH) (wW := fun _ => none) (iN := iN) (vN := vN) (by rw [hhH]; exact ⟨rfl, rfl, rfl, rfl, rfl⟩) (by rw [hiN]; exact ⟨rfl, rfl, rfl⟩) (by rw [hiN]; rfl) (fun _ => rfl) (fun w => absurd w (by omega)) (fun w => absurd w (by omega)) (fun _ => ⟨rfl, rfl⟩) (fun _ c' hc' => by rw [hvN]; show (if c' < c3 P then (1 : Int64) else 0) = 1; rw [if_pos hc'])
  rw [← tn] at ct
  refine rc_end (r := nI (x_n X)) (pm' := pm') (M1 := nx (apM B ρ τ M (M.1 + 1)) (18 + c3 P + c3 P) [shL z P, .inr (2, ndL M.1), ar0 (c3 P) 1, arz (c3 P)]) (j6 hf.1 hf.2) gm ?_ (fr_Tp hr (rtp_new gV gr hp ok' ct q2) q3) (by show M.1 + 4 ≤ M.1 + 6; omega) (by show M.2.1 + (18 + c3 P + c3 P) ≤ M.2.1 + 160; omega)
  show jf_PM_leaf N _ (B + 19) (nI z) a b c = _
  rw [lf_PM_leaf, q1]
  rfl
