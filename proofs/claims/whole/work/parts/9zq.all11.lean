/-! ALL OF IT, 11: the shape of an act -/
theorem gm_sh {B : Nat} {ta py sc tk pm : kS} {Λ : tQ} {ρ : tR} {τ : tS} {M : mv_M} (h : GM B ta py sc tk pm Λ ρ τ M) {X : tX} (hc : cSt X ρ τ) {i : Nat} (hi : i < x_n X) : (B + 40 ≤ t_A ρ i 3 ∧ t_A ρ i 3 < M.1) ∧ Λ.2 (t_A ρ i 3) = none ∧ M.2.2 (t_A ρ i 3) = some (shL (x_s X i) (x_P X i)) := by
  obtain ⟨e1, ⟨k1, k2, k3, k4, k5, k6⟩, e3, e4, e5, e6⟩ := h.2.2.2.2.2.2.2
  have hi' : i < t_n ρ := by rw [hc.1]; exact hi
  obtain ⟨q1, q2, q3⟩ := k4 i hi'
  refine ⟨e5 i hi', q1, ?_⟩
  obtain ⟨g0, g1, g2, g3, g4⟩ := (hc.2.2 i hi).1
  rw [q3, g0, g1, g2, g3, g4]
  rfl
theorem nw_old {M : mv_M} {ci n : Nat} {fs : List Value} {a : Nat} (h : a < M.1) : (mj_new M ci n fs).2.2 a = M.2.2 a := va_up_ne _ _ (by omega)
theorem c_spd (N : Nat) {p q : Nat} (hp : p ≤ 64) (hq : q ≤ 64) : kf_Sh_spread N (nI p) (nI q) = some (bI (spd p q)) := by
  have one : ∀ x : Nat, x ≤ 64 → (nI x = 1 ↔ x = 1) := fun x hx => by rw [show (1 : Int32) = nI 1 from rfl, nI_eq (by omega) (by omega)]
  unfold kf_Sh_spread kb_Sh_spread_0 kb_Sh_spread_15 kb_Sh_spread_20
  by_cases e1 : p = q
  · rw [if_pos (by rw [e1]), bI_t (Or.inl e1)]
    rfl
  · rw [if_neg (by rw [nI_eq (by omega) (by omega)]; exact e1)]
    by_cases e2 : p = 1
    · rw [if_pos ((one _ hp).mpr e2), bI_t (Or.inr (Or.inl e2))]
      rfl
    · rw [if_neg (fun w => e2 ((one _ hp).mp w))]
      by_cases e3 : q = 1
      · rw [if_pos ((one _ hq).mpr e3), bI_t (Or.inr (Or.inr e3))]
        rfl
      · rw [if_neg (fun w => e3 ((one _ hq).mp w)), bI_f (fun w => w.elim e1 (fun w => w.elim e2 e3))]
        rfl
theorem c_two (N : Nat) {o : Nat} (ho : o < 16) : kf_Op_isOfTwo N (nI o) = some (bI (o < 5)) := by
  unfold kf_Op_isOfTwo kb_Op_isOfTwo_0 kb_Op_isOfTwo_10
  by_cases e : o < 5
  · rw [if_neg (by rw [show (4 : Int32) = nI 4 from rfl, nI_ltI (by omega) (by omega)]; omega), bI_t e]
    rfl
  · rw [if_pos (by rw [show (4 : Int32) = nI 4 from rfl, nI_ltI (by omega) (by omega)]; omega), bI_f e]
    rfl
theorem c_op (N : Nat) (v : Int32) : kf_Op_isOp N v = some (bI (0 ≤ v.toInt ∧ v.toInt ≤ 15)) := by
  have e0 : (0 : Int32).toInt = 0 := by decide
  have e15 : (15 : Int32).toInt = 15 := by decide
  unfold kf_Op_isOp kb_Op_isOp_0 kb_Op_isOp_14 kb_Op_isOp_15
  by_cases h1 : v < 0
  · rw [if_pos h1, bI_f (fun w => by rw [i32lt, e0] at h1; omega)]
    rfl
  · rw [if_neg h1]
    rw [i32lt, e0] at h1
    by_cases h2 : (15 : Int32) < v
    · rw [if_pos h2, bI_f (fun w => by rw [i32lt, e15] at h2; omega)]
      rfl
    · rw [if_neg h2, bI_t (by rw [i32lt, e15] at h2; omega)]
      rfl
section OA
variable {M : mv_M} {sa sb s1 s2 : Nat} {A Q : Nat → Nat}
theorem j_two (N : Nat) (ha : sa < M.1) (h1 : M.2.2 sa = some (shL s1 A)) (hb : sb < M.1) (h2 : M.2.2 sb = some (shL s2 Q)) (b1 : s1 ≤ 3 ∧ ∀ k, k < 3 → A k ≤ 64) (b2 : s2 ≤ 3 ∧ ∀ k, k < 3 → Q k ≤ 64) {o : Nat} (ho : o < 4) : jf_Sh_ofTwo N M (nI o) (some sa) (some sb) = (if spd (A 0) (Q 0) ∧ spd (A 1) (Q 1) ∧ spd (A 2) (Q 2) then some (some M.1, nx M 5 [shL (max s1 s2) (fun k => max (A k) (Q k))]) else some (none, M)) := by
  obtain ⟨x0, x1, x2, x3, x4⟩ := sh_I h1
  obtain ⟨y0, y1, y2, y3, y4⟩ := sh_I h2
  obtain ⟨u0, u1, u2, u3, u4⟩ := sh_I ((nw_old (ci := 5) (n := 5) (fs := [.int 0, .int 0, .int 0, .int 0, .int 0]) ha).trans h1)
  obtain ⟨w0, w1, w2, w3, w4⟩ := sh_I ((nw_old (ci := 5) (n := 5) (fs := [.int 0, .int 0, .int 0, .int 0, .int 0]) hb).trans h2)
  have p0 := b1.2 0 (by omega)
  have p1 := b1.2 1 (by omega)
  have p2 := b1.2 2 (by omega)
  have q0 := b2.2 0 (by omega)
  have q1 := b2.2 1 (by omega)
  have q2 := b2.2 2 (by omega)
  have mx : ∀ (MM : mv_M) {β : Type} (p q : Nat) (f : Int32 → mv_M → Option β), p ≤ 64 → q ≤ 64 → mj_call (jf_Jm_max N MM (nI p) (nI q)) f = f (nI (max p q)) MM := fun MM β p q f hp hq => by
    rw [lf_Jm_max, kf_max N (by omega) (by omega), mj_callM]
  have sp : ∀ {β : Type} (p q : Nat) (f : Int32 → mv_M → Option β), p ≤ 64 → q ≤ 64 → mj_call (jf_Sh_spread N M (nI p) (nI q)) f = f (bI (spd p q)) M := fun p q f hp hq => by
    rw [lf_Sh_spread, c_spd N hp hq, mj_callM]
  unfold jf_Sh_ofTwo jb_Sh_ofTwo_0 jb_Sh_ofTwo_106
  rw [if_neg (show ¬ nI o = 4 by rw [show (4 : Int32) = nI 4 from rfl, nI_eq (by omega) (by omega)]; omega), Option.bind_some, x1, Option.bind_some, Option.bind_some, y1, Option.bind_some, sp _ _ _ p0 q0]
  by_cases c0 : spd (A 0) (Q 0)
  case neg => rw [bI_f c0, if_pos rfl, if_neg (fun w => c0 w.1)]
  rw [bI_t c0, if_neg (show ¬ (1 : Int32) = 0 by decide), x2, Option.bind_some, y2, Option.bind_some, sp _ _ _ p1 q1]
  by_cases c1 : spd (A 1) (Q 1)
  case neg => rw [bI_f c1, if_pos rfl, if_neg (fun w => c1 w.2.1)]
  rw [bI_t c1, if_neg (show ¬ (1 : Int32) = 0 by decide), x3, Option.bind_some, y3, Option.bind_some, sp _ _ _ p2 q2]
  by_cases c2 : spd (A 2) (Q 2)
  case neg => rw [bI_f c2, if_pos rfl, if_neg (fun w => c2 w.2.2)]
  rw [bI_t c2, if_neg (show ¬ (1 : Int32) = 0 by decide), if_pos ⟨c0, c1, c2⟩, mj_nwE, u0, Option.bind_some, w0, Option.bind_some, mx _ _ _ _ (by omega) (by omega), u1, Option.bind_some, w1, Option.bind_some, mx _ _ _ _ p0 q0, u2, Option.bind_some, w2, Option.bind_some, mx _ _ _ _ p1 q1, u3, Option.bind_some, w3, Option.bind_some, mx _ _ _ _ p2 q2]
  exact nx_sh0 N M _ _ _ _ (z := max s1 s2) (P := fun k => max (A k) (Q k)) rfl rfl rfl rfl (fun _ M' => some (some M.1, M'))
theorem j_four (N : Nat) (ha : sa < M.1) (h1 : M.2.2 sa = some (shL s1 A)) (hb : sb < M.1) (h2 : M.2.2 sb = some (shL s2 Q)) (b1 : s1 ≤ 3 ∧ ∀ k, k < 3 → A k ≤ 64) (b2 : s2 ≤ 3 ∧ ∀ k, k < 3 → Q k ≤ 64) : jf_Sh_ofTwo N M (nI 4) (some sa) (some sb) = (if s1 = 2 ∧ s2 = 2 ∧ A 2 = Q 1 then some (some M.1, nx M 5 [shL 2 (m3 1 (A 1) (Q 2))]) else some (none, M)) := by
  obtain ⟨x0, x1, x2, x3, x4⟩ := sh_I h1
  obtain ⟨y0, y1, y2, y3, y4⟩ := sh_I h2
  obtain ⟨u0, u1, u2, u3, u4⟩ := sh_I ((nw_old (ci := 5) (n := 5) (fs := [.int 0, .int 0, .int 0, .int 0, .int 0]) ha).trans h1)
  obtain ⟨w0, w1, w2, w3, w4⟩ := sh_I ((nw_old (ci := 5) (n := 5) (fs := [.int 0, .int 0, .int 0, .int 0, .int 0]) hb).trans h2)
  have p2 := b1.2 2 (by omega)
  have q1 := b2.2 1 (by omega)
  have two : ∀ x : Nat, x ≤ 3 → (nI x = 2 ↔ x = 2) := fun x hx => by rw [show (2 : Int32) = nI 2 from rfl, nI_eq (by omega) (by omega)]
  unfold jf_Sh_ofTwo jb_Sh_ofTwo_0 jb_Sh_ofTwo_36 jb_Sh_ofTwo_37 jb_Sh_ofTwo_63
  rw [if_pos (show nI 4 = 4 by decide), Option.bind_some, x0, Option.bind_some]
  by_cases c1 : s1 = 2
  case neg => rw [if_neg (fun w => c1 ((two _ b1.1).mp w)), if_pos (show (0 : Int32) = 0 from rfl), if_neg (fun w => c1 w.1)]
  rw [if_pos ((two _ b1.1).mpr c1), Option.bind_some, y0, Option.bind_some]
  by_cases c2 : s2 = 2
  case neg => rw [if_neg (fun w => c2 ((two _ b2.1).mp w)), if_pos (show (0 : Int32) = 0 from rfl), if_neg (fun w => c2 w.2.1)]
  rw [if_pos ((two _ b2.1).mpr c2), x3, Option.bind_some, y2, Option.bind_some]
  by_cases c3' : A 2 = Q 1
  case neg => rw [if_neg (by rw [nI_eq (by omega) (by omega)]; exact c3'), if_pos (show (0 : Int32) = 0 from rfl), if_neg (fun w => c3' w.2.2)]
  rw [if_pos (by rw [c3']), if_neg (show ¬ (1 : Int32) = 0 by decide), if_pos ⟨c1, c2, c3'⟩, mj_nwE, Option.bind_some, u2, Option.bind_some, Option.bind_some, w3, Option.bind_some]
  exact nx_sh0 N M _ _ _ _ (z := 2) (P := m3 1 (A 1) (Q 2)) rfl rfl rfl rfl (fun _ M' => some (some M.1, M'))
theorem j_without (N : Nat) (ha : sa < M.1) (h1 : M.2.2 sa = some (shL s1 A)) {pl : Nat} (hp : pl < 3) (hs : 1 ≤ s1) : jf_Sh_without N M sa (nI pl) = some (some M.1, nx M 5 [shL (s1 - 1) (m3 1 (if pl = 0 then A 1 else A 0) (if pl = 2 then A 1 else A 2))]) := by
  have := sh_without N ha h1 hp hs 0 []
  rw [nx_nil] at this
  exact this
end OA
/-- the shape of an act, as the class makes it -/
theorem j_ofAct {X : tX} (ok : x_ok X) {M : mv_M} {N o a sa : Nat} (h16 : o < 16) (ha : a < x_n X) (sl : sa < M.1) (sh : M.2.2 sa = some (shL (x_s X a) (x_P X a))) (v : Int32) (sb : Option Nat) (hb : (o < 5 ∧ ∃ j b, j < x_n X ∧ v = nI j ∧ sb = some b ∧ b < M.1 ∧ M.2.2 b = some (shL (x_s X j) (x_P X j))) ∨ (5 ≤ o ∧ sb = none)) :
    (x_mk X o a v = none → jf_Sh_ofAct N M (nI o) v (some sa) sb = some (none, M)) ∧ ∀ b z P, x_mk X o a v = some (b, z, P) → ∃ s L0, jf_Sh_ofAct N M (nI o) v (some sa) sb = some (some s, nx M (5 * L0.length) L0) ∧ ((L0 = [shL z P] ∧ s = M.1) ∨ (L0 = [] ∧ s = sa ∧ z = x_s X a ∧ P = x_P X a)) := by
  have hn := ok.1
  have da := (ok.2 a ha).2.1
  have ba : x_s X a ≤ 3 ∧ ∀ k, k < 3 → x_P X a k ≤ 64 := ⟨da.1, fun k hk => (da.2.1 k hk).2⟩
  obtain ⟨y0, y1, y2, y3, y4⟩ := sh_I sh
  have e0 : (0 : Int32).toInt = 0 := by decide
  have k1 : v < 0 ↔ v.toInt < 0 := by rw [i32lt, e0]
  have k2 : ∀ m : Nat, m < 1000 → (v < nI m ↔ v.toInt < (m : Int)) := fun m hm => by rw [i32lt, nI_toInt (by omega)]
  unfold jf_Sh_ofAct jb_Sh_ofAct_0 jb_Sh_ofAct_21 jb_Sh_ofAct_92 jb_Sh_ofAct_105 jb_Sh_ofAct_118 jb_Sh_ofAct_131 jb_Sh_ofAct_144 jb_Sh_ofAct_171 jb_Sh_ofAct_194 jb_Sh_ofAct_214 jb_Sh_ofAct_224
  rw [lf_Op_isOfTwo, c_two N h16, mj_callM]
  rcases hb with ⟨h5, j, b, hj, rfl, rfl, bl, bh⟩ | ⟨h5, rfl⟩
  · have dj := (ok.2 j hj).2.1
    have bj : x_s X j ≤ 3 ∧ ∀ k, k < 3 → x_P X j k ≤ 64 := ⟨dj.1, fun k hk => (dj.2.1 k hk).2⟩
    rw [bI_t h5, if_neg (show ¬ (1 : Int32) = 0 by decide), mj_optS]
    by_cases h4 : o < 4
    · have mk : x_mk X o a (nI j) = if spd (x_P X a 0) (x_P X j 0) ∧ spd (x_P X a 1) (x_P X j 1) ∧ spd (x_P X a 2) (x_P X j 2) then some (j, max (x_s X a) (x_s X j), fun k => max (x_P X a k) (x_P X j k)) else none := by
        unfold x_mk
        rw [if_pos h4, nI_clamp (by omega)]
      rw [mk, j_two N sl sh bl bh ba bj h4]
      by_cases c : spd (x_P X a 0) (x_P X j 0) ∧ spd (x_P X a 1) (x_P X j 1) ∧ spd (x_P X a 2) (x_P X j 2)
      · rw [if_pos c, if_pos c]
        refine ⟨fun w => (nomatch w), fun b' z P w => ?_⟩
        cases w
        exact ⟨M.1, [_], rfl, Or.inl ⟨rfl, rfl⟩⟩
      · rw [if_neg c, if_neg c]
        exact ⟨fun _ => rfl, fun b' z P w => (nomatch w)⟩
    · obtain rfl : o = 4 := by omega
      have mk : x_mk X 4 a (nI j) = if x_s X a = 2 ∧ x_s X j = 2 ∧ x_P X a 2 = x_P X j 1 then some (j, 2, m3 1 (x_P X a 1) (x_P X j 2)) else none := by
        unfold x_mk
        rw [if_neg (by omega), if_pos rfl, nI_clamp (by omega)]
      rw [mk, j_four N sl sh bl bh ba bj]
      by_cases c : x_s X a = 2 ∧ x_s X j = 2 ∧ x_P X a 2 = x_P X j 1
      · rw [if_pos c, if_pos c]
        refine ⟨fun w => (nomatch w), fun b' z P w => ?_⟩
        cases w
        exact ⟨M.1, [_], rfl, Or.inl ⟨rfl, rfl⟩⟩
      · rw [if_neg c, if_neg c]
        exact ⟨fun _ => rfl, fun b' z P w => (nomatch w)⟩
  · rw [bI_f (show ¬ o < 5 by omega), if_pos (show (0 : Int32) = 0 from rfl)]
    have along : 5 ≤ o → o < 8 → ∀ R : Option (Option Nat × mv_M), R = (if v < 0 then some (none, M) else Option.bind (some sa) fun a86 => Option.bind (mj_getI M a86 5 0) fun x86 => if v < x86 then (mj_ob M a86 5 (mj_call (jf_Sh_placeOf N M a86 v) fun r99 Mm99 => mj_ob Mm99 a86 5 (mj_call (jf_Sh_without N Mm99 a86 r99) fun r102 Mm102 => some (r102, Mm102)))) else some (none, M)) → ((x_mk X o a v = none → R = some (none, M)) ∧ ∀ b z P, x_mk X o a v = some (b, z, P) → ∃ s L0, R = some (some s, nx M (5 * L0.length) L0) ∧ ((L0 = [shL z P] ∧ s = M.1) ∨ (L0 = [] ∧ s = sa ∧ z = x_s X a ∧ P = x_P X a))) := by
      intro g5 g8 R hR
      have mk : x_mk X o a v = if 0 ≤ v.toInt ∧ v.toInt ≤ (x_s X a : Int) - 1 then some (v.toNatClampNeg, x_s X a - 1, m3 1 (if 3 - x_s X a + v.toNatClampNeg = 0 then x_P X a 1 else x_P X a 0) (if 3 - x_s X a + v.toNatClampNeg = 2 then x_P X a 1 else x_P X a 2)) else none := by
        unfold x_mk
        rw [if_neg (by omega), if_neg (by omega), if_pos g8]
      rw [mk]
      rw [Option.bind_some, y0, Option.bind_some] at hR
      by_cases c : 0 ≤ v.toInt ∧ v.toInt ≤ (x_s X a : Int) - 1
      · obtain ⟨w1, w2, w3⟩ := v_clamp (v := v) (m := x_s X a - 1) c.1 (by omega) (by omega)
        have pl : jf_Sh_placeOf N M sa v = some (nI (3 - x_s X a + v.toNatClampNeg), M) := by
          have := sh_place N sh ba.1 v.toNatClampNeg
          rw [← w2] at this
          exact this
        rw [if_neg (fun q => by have := k1.mp q; omega), if_pos ((k2 _ (by omega)).mpr (by omega)), sh_ob sh, pl, mj_callS, sh_ob sh, j_without N sl sh (by omega) (by omega), mj_callS] at hR
        rw [if_pos c]
        refine ⟨fun w => (nomatch w), fun b' z P w => ?_⟩
        cases w
        exact ⟨M.1, [_], hR, Or.inl ⟨rfl, rfl⟩⟩
      · rw [if_neg c]
        refine ⟨fun _ => ?_, fun b' z P w => (nomatch w)⟩
        rw [hR]
        by_cases q : v < 0
        · rw [if_pos q]
        · rw [if_neg q, if_neg (fun q2 => c ⟨by have := mt k1.mpr q; omega, by have := (k2 _ (by omega)).mp q2; omega⟩)]
    have keep : 10 ≤ o → o < 14 → ∀ R : Option (Option Nat × mv_M), R = (if v = 0 then some (some sa, M) else some (none, M)) → ((x_mk X o a v = none → R = some (none, M)) ∧ ∀ b z P, x_mk X o a v = some (b, z, P) → ∃ s L0, R = some (some s, nx M (5 * L0.length) L0) ∧ ((L0 = [shL z P] ∧ s = M.1) ∨ (L0 = [] ∧ s = sa ∧ z = x_s X a ∧ P = x_P X a))) := by
      intro g5 g8 R hR
      have mk : x_mk X o a v = if v = 0 then some (0, x_s X a, x_P X a) else none := by
        unfold x_mk
        rw [if_neg (by omega), if_neg (by omega), if_neg (by omega), if_neg (by omega), if_neg (show ¬ o = 9 by omega), if_neg (show ¬ o = 14 by omega), if_neg (show ¬ o = 15 by omega)]
      rw [mk]
      by_cases c : v = 0
      · rw [if_pos c] at hR ⊢
        refine ⟨fun w => (nomatch w), fun b' z P w => ?_⟩
        cases w
        refine ⟨sa, [], ?_, Or.inr ⟨rfl, rfl, rfl, rfl⟩⟩
        rw [hR]
        show _ = some (some sa, nx M 0 [])
        rw [nx_nil]
      · rw [if_neg c] at hR ⊢
        exact ⟨fun _ => hR, fun b' z P w => (nomatch w)⟩
    obtain e | e | e | e | e | e | e | e | e | e | e : o = 5 ∨ o = 6 ∨ o = 7 ∨ o = 8 ∨ o = 9 ∨ o = 10 ∨ o = 11 ∨ o = 12 ∨ o = 13 ∨ o = 14 ∨ o = 15 := by omega
    · subst e
      exact along (by omega) (by omega) _ (if_pos (by decide))
    · subst e
      exact along (by omega) (by omega) _ ((if_neg (by decide)).trans (if_pos (by decide)))
    · subst e
      exact along (by omega) (by omega) _ ((if_neg (by decide)).trans ((if_neg (by decide)).trans (if_pos (by decide))))
    · subst e
      have mk : x_mk X 8 a v = if x_s X a ≠ 0 ∧ 0 ≤ v.toInt ∧ v.toInt ≤ (x_P X a (3 - x_s X a) : Int) - 1 then some (v.toNatClampNeg, x_s X a - 1, m3 1 (if 3 - x_s X a = 0 then x_P X a 1 else x_P X a 0) (if 3 - x_s X a = 2 then x_P X a 1 else x_P X a 2)) else none := by
        unfold x_mk
        rw [if_neg (by omega), if_neg (by omega), if_neg (by omega), if_pos rfl]
      rw [mk, if_neg (show ¬ nI 8 = 5 by decide), if_neg (show ¬ nI 8 = 6 by decide), if_neg (show ¬ nI 8 = 7 by decide), if_pos (show nI 8 = 8 by decide), Option.bind_some, sh_ob sh, sh_first N sh ba.1, mj_callS]
      by_cases c : x_s X a ≠ 0 ∧ 0 ≤ v.toInt ∧ v.toInt ≤ (x_P X a (3 - x_s X a) : Int) - 1
      · have pb := ba.2 (3 - x_s X a) (by omega)
        have p0 : jf_Sh_placeOf N M sa 0 = some (nI (3 - x_s X a), M) := sh_place N sh ba.1 0
        rw [if_pos c, if_neg (show ¬ v < 0 from fun q => by have := k1.mp q; omega), if_neg c.1, if_pos ((k2 _ (by omega)).mpr (by omega)), sh_ob sh, p0, mj_callS, sh_ob sh, j_without N sl sh (by omega) (by omega), mj_callS]
        refine ⟨fun w => (nomatch w), fun b' z P w => ?_⟩
        cases w
        exact ⟨M.1, [_], rfl, Or.inl ⟨rfl, rfl⟩⟩
      · rw [if_neg c]
        refine ⟨fun _ => ?_, fun b' z P w => (nomatch w)⟩
        by_cases q : v < 0
        · rw [if_pos q]
        · rw [if_neg q]
          have q' := mt k1.mpr q
          by_cases s0 : x_s X a = 0
          · rw [if_pos s0, if_neg (show ¬ v < 0 from q)]
          · have pb := ba.2 (3 - x_s X a) (by omega)
            rw [if_neg s0, if_neg (fun q2 => c ⟨s0, by omega, by have := (k2 _ (by omega)).mp q2; omega⟩)]
    · subst e
      have mk : x_mk X 9 a v = if v = 0 then (if 2 ≤ x_s X a then some (0, x_s X a, m3 (x_P X a 0) (x_P X a 2) (x_P X a 1)) else none) else none := by
        unfold x_mk
        rw [if_neg (by omega), if_neg (by omega), if_neg (by omega), if_neg (by omega), if_pos (show 9 = 9 from rfl)]
      obtain ⟨u0, u1, u2, u3, u4⟩ := sh_I ((nw_old (ci := 5) (n := 5) (fs := [.int 0, .int 0, .int 0, .int 0, .int 0]) sl).trans sh)
      rw [mk, if_neg (show ¬ nI 9 = 5 by decide), if_neg (show ¬ nI 9 = 6 by decide), if_neg (show ¬ nI 9 = 7 by decide), if_neg (show ¬ nI 9 = 8 by decide), if_pos (show nI 9 = 9 by decide)]
      by_cases c : v = 0
      · rw [if_pos c, if_pos c, Option.bind_some, y0, Option.bind_some]
        by_cases c2 : 2 ≤ x_s X a
        · rw [if_pos c2, if_pos (show (2 : Int32) ≤ nI (x_s X a) by rw [show (2 : Int32) = nI 2 from rfl, nI_leI (by omega) (by omega)]; exact c2), mj_nwE, u0, Option.bind_some, u1, Option.bind_some, u3, Option.bind_some, u2, Option.bind_some]
          refine ⟨fun w => (nomatch w), fun b' z P w => ?_⟩
          cases w
          exact ⟨M.1, [_], nx_sh0 N M _ _ _ _ (z := x_s X a) (P := m3 (x_P X a 0) (x_P X a 2) (x_P X a 1)) rfl rfl rfl rfl (fun _ M' => some (some M.1, M')), Or.inl ⟨rfl, rfl⟩⟩
        · rw [if_neg c2, if_neg (show ¬ (2 : Int32) ≤ nI (x_s X a) by rw [show (2 : Int32) = nI 2 from rfl, nI_leI (by omega) (by omega)]; exact c2)]
          exact ⟨fun _ => rfl, fun b' z P w => (nomatch w)⟩
      · rw [if_neg c, if_neg c]
        exact ⟨fun _ => rfl, fun b' z P w => (nomatch w)⟩
    · subst e
      exact keep (by omega) (by omega) _ rfl
    · subst e
      exact keep (by omega) (by omega) _ rfl
    · subst e
      exact keep (by omega) (by omega) _ rfl
    · subst e
      exact keep (by omega) (by omega) _ rfl
    · subst e
      have mk : x_mk X 14 a v = if v = 0 then some (0, 1, m3 1 1 (c3 (x_P X a))) else none := by
        unfold x_mk
        rw [if_neg (by omega), if_neg (by omega), if_neg (by omega), if_neg (by omega), if_neg (show ¬ 14 = 9 by omega), if_pos (show 14 = 14 from rfl)]
      obtain ⟨u0, u1, u2, u3, u4⟩ := sh_I ((nw_old (ci := 5) (n := 5) (fs := [.int 0, .int 0, .int 0, .int 0, .int 0]) sl).trans sh)
      rw [mk, if_neg (show ¬ nI 14 = 5 by decide), if_neg (show ¬ nI 14 = 6 by decide), if_neg (show ¬ nI 14 = 7 by decide), if_neg (show ¬ nI 14 = 8 by decide), if_neg (show ¬ nI 14 = 9 by decide), if_neg (show ¬ nI 14 = 10 by decide), if_neg (show ¬ nI 14 = 11 by decide), if_neg (show ¬ nI 14 = 12 by decide), if_neg (show ¬ nI 14 = 13 by decide), if_pos (show nI 14 = 14 by decide)]
      by_cases c : v = 0
      · rw [if_pos c, if_pos c, mj_nwE, Option.bind_some, u4, Option.bind_some]
        refine ⟨fun w => (nomatch w), fun b' z P w => ?_⟩
        cases w
        exact ⟨M.1, [_], nx_sh0 N M _ _ _ _ (z := 1) (P := m3 1 1 (c3 (x_P X a))) rfl rfl rfl rfl (fun _ M' => some (some M.1, M')), Or.inl ⟨rfl, rfl⟩⟩
      · rw [if_neg c, if_neg c]
        exact ⟨fun _ => rfl, fun b' z P w => (nomatch w)⟩
    · subst e
      have mk : x_mk X 15 a v = if v = 0 then some (0, 0, m3 1 1 1) else none := by
        unfold x_mk
        rw [if_neg (by omega), if_neg (by omega), if_neg (by omega), if_neg (by omega), if_neg (show ¬ 15 = 9 by omega), if_neg (show ¬ 15 = 14 by omega), if_pos (show 15 = 15 from rfl)]
      rw [mk, if_neg (show ¬ nI 15 = 5 by decide), if_neg (show ¬ nI 15 = 6 by decide), if_neg (show ¬ nI 15 = 7 by decide), if_neg (show ¬ nI 15 = 8 by decide), if_neg (show ¬ nI 15 = 9 by decide), if_neg (show ¬ nI 15 = 10 by decide), if_neg (show ¬ nI 15 = 11 by decide), if_neg (show ¬ nI 15 = 12 by decide), if_neg (show ¬ nI 15 = 13 by decide), if_neg (show ¬ nI 15 = 14 by decide), if_pos (show nI 15 = 15 by decide)]
      by_cases c : v = 0
      · rw [if_pos c, if_pos c, mj_nwE]
        refine ⟨fun w => (nomatch w), fun b' z P w => ?_⟩
        cases w
        exact ⟨M.1, [_], nx_sh0 N M _ _ _ _ (z := 0) (P := m3 1 1 1) rfl rfl rfl rfl (fun _ M' => some (some M.1, M')), Or.inl ⟨rfl, rfl⟩⟩
      · rw [if_neg c, if_neg c]
        exact ⟨fun _ => rfl, fun b' z P w => (nomatch w)⟩
