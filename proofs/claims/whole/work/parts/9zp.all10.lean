/-! ALL OF IT, 10: shapes and views of an act -/
section SH
variable {MM : mv_M} {sa s : Nat} {P : Nat → Nat}
theorem sh_I (h : MM.2.2 sa = some (shL s P)) : mj_getI MM sa 5 0 = some (nI s) ∧ mj_getI MM sa 5 1 = some (nI (P 0)) ∧ mj_getI MM sa 5 2 = some (nI (P 1)) ∧ mj_getI MM sa 5 3 = some (nI (P 2)) ∧ mj_getI MM sa 5 4 = some (nI (c3 P)) := ⟨mj_getI_of h rfl, mj_getI_of h rfl, mj_getI_of h rfl, mj_getI_of h rfl, mj_getI_of h rfl⟩
theorem sh_ob {β : Type} (h : MM.2.2 sa = some (shL s P)) (A : Option β) : mj_ob MM sa 5 A = A := mj_ob_of h
theorem sh_place (N : Nat) (h : MM.2.2 sa = some (shL s P)) (hs : s ≤ 3) (b : Nat) : jf_Sh_placeOf N MM sa (nI b) = some (nI (3 - s + b), MM) := by
  unfold jf_Sh_placeOf jb_Sh_placeOf_0
  rw [(sh_I h).1, Option.bind_some, show (3 : Int32) - nI s = nI (3 - s) from nI_sub (show s ≤ 3 from hs), nI_add]
theorem sh_length (N : Nat) (h : MM.2.2 sa = some (shL s P)) {pl : Nat} (hp : pl < 3) : jf_Sh_lengthAt N MM sa (nI pl) = some (nI (P pl), MM) := by
  obtain ⟨h0, h1, h2, h3, h4⟩ := sh_I h
  unfold jf_Sh_lengthAt jb_Sh_lengthAt_0 jb_Sh_lengthAt_27
  obtain rfl | rfl | rfl : pl = 0 ∨ pl = 1 ∨ pl = 2 := by omega
  · rw [if_pos (by decide), h1, Option.bind_some]
  · rw [if_neg (by decide), if_pos (by decide), h2, Option.bind_some]
  · rw [if_neg (by decide), if_neg (by decide), h3, Option.bind_some]
theorem sh_step (N : Nat) (h : MM.2.2 sa = some (shL s P)) {pl : Nat} (hp : pl < 3) : jf_Sh_stepAt N MM sa (nI pl) = some (nI (st3 P pl), MM) := by
  obtain ⟨h0, h1, h2, h3, h4⟩ := sh_I h
  unfold jf_Sh_stepAt jb_Sh_stepAt_0 jb_Sh_stepAt_29
  obtain rfl | rfl | rfl : pl = 0 ∨ pl = 1 ∨ pl = 2 := by omega
  · rw [if_pos (by decide), h2, Option.bind_some, h3, Option.bind_some, nI_mul]
    rfl
  · rw [if_neg (by decide), if_pos (by decide), h3, Option.bind_some]
    rfl
  · rw [if_neg (by decide), if_neg (by decide)]
    rfl
theorem sh_first (N : Nat) (h : MM.2.2 sa = some (shL s P)) (hs : s ≤ 3) : jf_Sh_firstLength N MM sa = some (if s = 0 then 0 else nI (P (3 - s)), MM) := by
  obtain ⟨h0, h1, h2, h3, h4⟩ := sh_I h
  unfold jf_Sh_firstLength jb_Sh_firstLength_0 jb_Sh_firstLength_20
  rw [h0, Option.bind_some]
  by_cases e : s = 0
  · rw [if_pos (show nI s = 0 by rw [e]; rfl), if_pos e]
  · rw [if_neg (show ¬ nI s = 0 by rw [show (0 : Int32) = nI 0 from rfl, nI_eq (by omega) (by omega)]; exact e), if_neg e, sh_ob h, show (0 : Int32) = nI 0 from rfl, sh_place N h hs 0, mj_callS, sh_ob h, Nat.add_zero, sh_length N h (by omega), mj_callS]
end SH
abbrev vwL (w : Nat → Nat) : va_E := .inr (9, [.int (nI (w 0)), .int (nI (w 1)), .int (nI (w 2)), .int (nI (w 3)), .int (nI (w 4))])
section VW
variable {M : mv_M} {n : Nat} {L : List va_E} {sa s : Nat} {P : Nat → Nat}
theorem old_sh (ha : sa < M.1) (h : M.2.2 sa = some (shL s P)) (n : Nat) (L : List va_E) : (nx M n L).2.2 sa = some (shL s P) := (nx_old M n L ha).trans h
/-- a new view, its numbers told -/
theorem nx_vwN {β : Type} (N : Nat) (M : mv_M) (n : Nat) (L : List va_E) {s o m i t : Int32} {w : Nat → Nat} (h0 : s = nI (w 0)) (h1 : o = nI (w 1)) (h2 : m = nI (w 2)) (h3 : i = nI (w 3)) (h4 : t = nI (w 4)) (f : Unit → mv_M → Option β) : mj_call (jf_Vw_init N (nx M (n + 5) (L ++ [.inr (9, [.int 0, .int 0, .int 0, .int 0, .int 0])])) (M.1 + L.length) s o m i t) f = f () (nx M (n + 5) (L ++ [vwL w])) := by
  have := nx_vw N M n L s o m i t f
  rw [nx_new] at this
  subst h0 h1 h2 h3 h4
  exact this
theorem nx_shN {β : Type} (N : Nat) (M : mv_M) (n : Nat) (L : List va_E) {s o m i : Int32} {z : Nat} {Q : Nat → Nat} (hs : s = nI z) (h0 : o = nI (Q 0)) (h1 : m = nI (Q 1)) (h2 : i = nI (Q 2)) (f : Unit → mv_M → Option β) : mj_call (jf_Sh_init N (nx M (n + 5) (L ++ [.inr (5, [.int 0, .int 0, .int 0, .int 0, .int 0])])) (M.1 + L.length) s o m i) f = f () (nx M (n + 5) (L ++ [shL z Q])) := by
  have := nx_sh N M n L s o m i f
  rw [nx_new, shL_eq hs h0 h1 h2] at this
  exact this
theorem vw_spread (N : Nat) (ha : sa < M.1) (h : M.2.2 sa = some (shL s P)) (hp : ∀ k, k < 3 → P k ≤ 64) (n : Nat) (L : List va_E) : jf_Vw_spread N (nx M n L) (some sa) = some (some (M.1 + L.length), nx M (n + 5) (L ++ [vwL (wSp P)])) := by
  have hs := old_sh ha h (n + 5) (L ++ [.inr (9, [.int 0, .int 0, .int 0, .int 0, .int 0])])
  obtain ⟨h0, h1, h2, h3, h4⟩ := sh_I hs
  have one : ∀ x : Nat, x ≤ 64 → (nI x = 1 ↔ x = 1) := fun x hx => by rw [show (1 : Int32) = nI 1 from rfl, nI_eq (by omega) (by omega)]
  have p0 := hp 0 (by omega)
  have p1 := hp 1 (by omega)
  have p2 := hp 2 (by omega)
  have s0 : jf_Sh_stepAt N (nx M (n + 5) (L ++ [.inr (9, [.int 0, .int 0, .int 0, .int 0, .int 0])])) sa 0 = some (nI (st3 P 0), nx M (n + 5) (L ++ [.inr (9, [.int 0, .int 0, .int 0, .int 0, .int 0])])) := sh_step N hs (pl := 0) (by omega)
  have s1 := sh_step N hs (pl := 1) (by omega)
  have e39 : ∀ x y : Int32, x = nI (wSp P 1) → y = nI (wSp P 2) → jb_Vw_spread_39 N (nx M (n + 5) (L ++ [.inr (9, [.int 0, .int 0, .int 0, .int 0, .int 0])])) (some sa) (M.1 + L.length) (M.1 + L.length) 0 x y = some (some (M.1 + L.length), nx M (n + 5) (L ++ [vwL (wSp P)])) := fun x y hx hy => by
    unfold jb_Vw_spread_39 jb_Vw_spread_52
    rw [Option.bind_some, h3, Option.bind_some]
    by_cases e : P 2 = 1
    · rw [if_pos ((one _ p2).mpr e)]
      exact nx_vwN N M n L (w := wSp P) rfl hx hy (by show (0 : Int32) = nI (if P 2 = 1 then 0 else 1); rw [if_pos e]; rfl) rfl (fun _ M' => some (some (M.1 + L.length), M'))
    · rw [if_neg (fun q => e ((one _ p2).mp q))]
      exact nx_vwN N M n L (w := wSp P) rfl hx hy (by show (1 : Int32) = nI (if P 2 = 1 then 0 else 1); rw [if_neg e]; rfl) rfl (fun _ M' => some (some (M.1 + L.length), M'))
  have e22 : ∀ x : Int32, x = nI (wSp P 1) → jb_Vw_spread_22 N (nx M (n + 5) (L ++ [.inr (9, [.int 0, .int 0, .int 0, .int 0, .int 0])])) (some sa) (M.1 + L.length) (M.1 + L.length) 0 x = some (some (M.1 + L.length), nx M (n + 5) (L ++ [vwL (wSp P)])) := fun x hx => by
    unfold jb_Vw_spread_22
    rw [Option.bind_some, h2, Option.bind_some]
    by_cases e : P 1 = 1
    · rw [if_pos ((one _ p1).mpr e)]
      exact e39 x 0 hx (by show (0 : Int32) = nI (if P 1 = 1 then 0 else st3 P 1); rw [if_pos e]; rfl)
    · rw [if_neg (fun q => e ((one _ p1).mp q)), sh_ob hs, show (1 : Int32) = nI 1 from rfl, s1, mj_callS]
      exact e39 x _ hx (by show nI (st3 P 1) = nI (if P 1 = 1 then 0 else st3 P 1); rw [if_neg e])
  unfold jf_Vw_spread jb_Vw_spread_0
  rw [mj_nwE, nx_new, show (nx M n L).1 = M.1 + L.length from rfl, Option.bind_some, h1, Option.bind_some]
  by_cases e : P 0 = 1
  · rw [if_pos ((one _ p0).mpr e)]
    exact e22 0 (by show (0 : Int32) = nI (if P 0 = 1 then 0 else st3 P 0); rw [if_pos e]; rfl)
  · rw [if_neg (fun q => e ((one _ p0).mp q)), sh_ob hs, s0, mj_callS]
    exact e22 _ (by show nI (st3 P 0) = nI (if P 0 = 1 then 0 else st3 P 0); rw [if_neg e])
theorem vw_along (N : Nat) (ha : sa < M.1) (h : M.2.2 sa = some (shL s P)) {pl b : Nat} (hp : pl < 3) (n : Nat) (L : List va_E) : jf_Vw_along N (nx M n L) (some sa) (nI pl) (nI b) = some (some (M.1 + L.length), nx M (n + 5) (L ++ [vwL (wAl P pl b)])) := by
  have hs0 := old_sh ha h n L
  have hs := old_sh ha h (n + 5) (L ++ [.inr (9, [.int 0, .int 0, .int 0, .int 0, .int 0])])
  have s2 := sh_step N hs0 hp
  have e38 : ∀ (x y v3 : Int32) (q : Nat), q < 3 → x = nI (wAl P pl b 0) → y = nI (wAl P pl b 2) → st3 P q = wAl P pl b 3 → v3 = nI (wAl P pl b 4) → jb_Vw_along_38 N (nx M (n + 5) (L ++ [.inr (9, [.int 0, .int 0, .int 0, .int 0, .int 0])])) v3 (M.1 + L.length) (M.1 + L.length) x 0 y (some sa) (nI q) = some (some (M.1 + L.length), nx M (n + 5) (L ++ [vwL (wAl P pl b)])) := fun x y v3 q hq hx hy hz hv => by
    unfold jb_Vw_along_38
    rw [Option.bind_some, sh_ob hs, sh_step N hs hq, mj_callS]
    exact nx_vwN N M n L (w := wAl P pl b) hx rfl hy (by rw [hz]) hv (fun _ M' => some (some (M.1 + L.length), M'))
  have e24 : ∀ (x v3 : Int32) (q : Nat), q < 3 → x = nI (wAl P pl b 0) → st3 P q = wAl P pl b 2 → v3 = nI (wAl P pl b 4) → jb_Vw_along_24 N (nx M (n + 5) (L ++ [.inr (9, [.int 0, .int 0, .int 0, .int 0, .int 0])])) (some sa) (nI pl) v3 (M.1 + L.length) (M.1 + L.length) x 0 (some sa) (nI q) = some (some (M.1 + L.length), nx M (n + 5) (L ++ [vwL (wAl P pl b)])) := fun x v3 q hq hx hy hv => by
    unfold jb_Vw_along_24
    rw [Option.bind_some, sh_ob hs, sh_step N hs hq, mj_callS]
    by_cases e : pl = 2
    · rw [if_pos (show nI pl = 2 by rw [e]; rfl)]
      exact e38 x _ v3 1 (by omega) hx (by rw [hy]) (by show st3 P 1 = st3 P (if pl = 2 then 1 else 2); rw [if_pos e]) hv
    · rw [if_neg (show ¬ nI pl = 2 by rw [show (2 : Int32) = nI 2 from rfl, nI_eq (by omega) (by omega)]; exact e)]
      exact e38 x _ v3 2 (by omega) hx (by rw [hy]) (by show st3 P 2 = st3 P (if pl = 2 then 1 else 2); rw [if_neg e]) hv
  unfold jf_Vw_along jb_Vw_along_0
  rw [Option.bind_some, sh_ob hs0, s2, mj_callS, mj_nwE, nx_new, show (nx M n L).1 = M.1 + L.length from rfl, nI_mul]
  by_cases e : pl = 0
  · rw [if_pos (show nI pl = 0 by rw [e]; rfl)]
    exact e24 _ _ 1 (by omega) rfl (by show st3 P 1 = st3 P (if pl = 0 then 1 else 0); rw [if_pos e]) rfl
  · rw [if_neg (show ¬ nI pl = 0 by rw [show (0 : Int32) = nI 0 from rfl, nI_eq (by omega) (by omega)]; exact e)]
    exact e24 _ _ 0 (by omega) rfl (by show st3 P 0 = st3 P (if pl = 0 then 1 else 0); rw [if_neg e]) rfl
theorem sh_without (N : Nat) (ha : sa < M.1) (h : M.2.2 sa = some (shL s P)) {pl : Nat} (hp : pl < 3) (hs1 : 1 ≤ s) (n : Nat) (L : List va_E) : jf_Sh_without N (nx M n L) sa (nI pl) = some (some (M.1 + L.length), nx M (n + 5) (L ++ [shL (s - 1) (m3 1 (if pl = 0 then P 1 else P 0) (if pl = 2 then P 1 else P 2))])) := by
  have hs := old_sh ha h (n + 5) (L ++ [.inr (5, [.int 0, .int 0, .int 0, .int 0, .int 0])])
  obtain ⟨h0, h1, h2, h3, h4⟩ := sh_I hs
  have e26 : ∀ x y : Int32, x = nI (s - 1) → y = nI (if pl = 0 then P 1 else P 0) → jb_Sh_without_26 N (nx M (n + 5) (L ++ [.inr (5, [.int 0, .int 0, .int 0, .int 0, .int 0])])) sa (nI pl) (M.1 + L.length) (M.1 + L.length) x 1 y = some (some (M.1 + L.length), nx M (n + 5) (L ++ [shL (s - 1) (m3 1 (if pl = 0 then P 1 else P 0) (if pl = 2 then P 1 else P 2))])) := fun x y hx hy => by
    unfold jb_Sh_without_26 jb_Sh_without_42
    by_cases e : pl = 2
    · rw [if_pos (show nI pl = 2 by rw [e]; rfl), h2, Option.bind_some]
      exact nx_shN N M n L (Q := m3 1 (if pl = 0 then P 1 else P 0) (if pl = 2 then P 1 else P 2)) hx rfl hy (by show nI (P 1) = nI (if pl = 2 then P 1 else P 2); rw [if_pos e]) (fun _ M' => some (some (M.1 + L.length), M'))
    · rw [if_neg (show ¬ nI pl = 2 by rw [show (2 : Int32) = nI 2 from rfl, nI_eq (by omega) (by omega)]; exact e), h3, Option.bind_some]
      exact nx_shN N M n L (Q := m3 1 (if pl = 0 then P 1 else P 0) (if pl = 2 then P 1 else P 2)) hx rfl hy (by show nI (P 2) = nI (if pl = 2 then P 1 else P 2); rw [if_neg e]) (fun _ M' => some (some (M.1 + L.length), M'))
  unfold jf_Sh_without jb_Sh_without_0
  rw [mj_nwE, nx_new, show (nx M n L).1 = M.1 + L.length from rfl, h0, Option.bind_some, show nI s - 1 = nI (s - 1) from nI_sub hs1]
  by_cases e : pl = 0
  · rw [if_pos (show nI pl = 0 by rw [e]; rfl), h2, Option.bind_some]
    exact e26 _ _ rfl (by rw [if_pos e])
  · rw [if_neg (show ¬ nI pl = 0 by rw [show (0 : Int32) = nI 0 from rfl, nI_eq (by omega) (by omega)]; exact e), h1, Option.bind_some]
    exact e26 _ _ rfl (by rw [if_neg e])
theorem vw_first (N : Nat) (ha : sa < M.1) (h : M.2.2 sa = some (shL s P)) (hs : s ≤ 3) (hp : ∀ k, k < 3 → P k ≤ 64) {o b : Nat} (ho : o < 16) (hb : (5 ≤ o ∧ o < 8 → b < s) ∧ (o = 8 → 1 ≤ s)) (n : Nat) (L : List va_E) : jf_Vw_ofFirst N (nx M n L) (nI o) (nI b) (some sa) = some (some (M.1 + L.length), nx M (n + 5) (L ++ [vwL (w_1 o b s P)])) := by
  have hs0 := old_sh ha h n L
  have hs1 := old_sh ha h (n + 5) (L ++ [.inr (9, [.int 0, .int 0, .int 0, .int 0, .int 0])])
  obtain ⟨h0, h1, h2, h3, h4⟩ := sh_I hs1
  have sp := vw_spread N ha h hp n L
  have s00 : jf_Sh_stepAt N (nx M (n + 5) (L ++ [.inr (9, [.int 0, .int 0, .int 0, .int 0, .int 0])])) sa 0 = some (nI (st3 P 0), nx M (n + 5) (L ++ [.inr (9, [.int 0, .int 0, .int 0, .int 0, .int 0])])) := sh_step N hs1 (pl := 0) (by omega)
  unfold jf_Vw_ofFirst jb_Vw_ofFirst_0
  have nwl : ∀ {β : Type} (f : Nat → mv_M → Option β), mj_nw (nx M n L) 9 5 [.int 0, .int 0, .int 0, .int 0, .int 0] f = f (M.1 + L.length) (nx M (n + 5) (L ++ [.inr (9, [.int 0, .int 0, .int 0, .int 0, .int 0])])) := fun f => by
    rw [mj_nwE, nx_new]
    rfl
  obtain e | e | e | e | e | e | e | e | e | e | e | e | e | e | e | e := o_16 ho
  · subst e
    rw [if_neg (by decide), if_neg (by decide), if_neg (by decide), if_neg (by decide), if_neg (by decide), if_neg (by decide), if_neg (by decide), if_neg (by decide), if_neg (by decide), if_neg (by decide), if_neg (by decide), if_neg (by decide), sp]
    rfl
  · subst e
    rw [if_neg (by decide), if_neg (by decide), if_neg (by decide), if_neg (by decide), if_neg (by decide), if_neg (by decide), if_neg (by decide), if_neg (by decide), if_neg (by decide), if_neg (by decide), if_neg (by decide), if_neg (by decide), sp]
    rfl
  · subst e
    rw [if_neg (by decide), if_neg (by decide), if_neg (by decide), if_neg (by decide), if_neg (by decide), if_neg (by decide), if_neg (by decide), if_neg (by decide), if_neg (by decide), if_neg (by decide), if_neg (by decide), if_neg (by decide), sp]
    rfl
  · subst e
    rw [if_neg (by decide), if_neg (by decide), if_neg (by decide), if_neg (by decide), if_neg (by decide), if_neg (by decide), if_neg (by decide), if_neg (by decide), if_neg (by decide), if_neg (by decide), if_neg (by decide), if_neg (by decide), sp]
    rfl
  · subst e
    rw [if_pos (by decide), nwl, Option.bind_some, h3, Option.bind_some]
    exact nx_vwN N M n L (w := w_1 4 b s P) rfl rfl rfl rfl rfl (fun _ M' => some (some (M.1 + L.length), M'))
  · subst e
    have := hb.1 (by omega)
    rw [if_neg (by decide), if_pos (by decide), Option.bind_some, sh_ob hs0, sh_place N hs0 hs, mj_callS, show (0 : Int32) = nI 0 from rfl, vw_along N ha h (by omega) n L]
    rfl
  · subst e
    have := hb.1 (by omega)
    rw [if_neg (by decide), if_neg (by decide), if_pos (by decide), Option.bind_some, sh_ob hs0, sh_place N hs0 hs, mj_callS, show (0 : Int32) = nI 0 from rfl, vw_along N ha h (by omega) n L]
    rfl
  · subst e
    have := hb.1 (by omega)
    rw [if_neg (by decide), if_neg (by decide), if_neg (by decide), if_pos (by decide), Option.bind_some, sh_ob hs0, sh_place N hs0 hs, mj_callS, show (0 : Int32) = nI 0 from rfl, vw_along N ha h (by omega) n L]
    rfl
  · subst e
    have := hb.2 rfl
    rw [if_neg (by decide), if_neg (by decide), if_neg (by decide), if_neg (by decide), if_pos (by decide), Option.bind_some, sh_ob hs0, show (0 : Int32) = nI 0 from rfl, sh_place N hs0 hs, mj_callS, Nat.add_zero, vw_along N ha h (by omega) n L]
    rfl
  · subst e
    rw [if_neg (by decide), if_neg (by decide), if_neg (by decide), if_neg (by decide), if_neg (by decide), if_pos (by decide), nwl, Option.bind_some, sh_ob hs1, s00, mj_callS, h3, Option.bind_some]
    exact nx_vwN N M n L (w := w_1 9 b s P) rfl rfl rfl rfl rfl (fun _ M' => some (some (M.1 + L.length), M'))
  · subst e
    rw [if_neg (by decide), if_neg (by decide), if_neg (by decide), if_neg (by decide), if_neg (by decide), if_neg (by decide), if_pos (by decide), sp]
    rfl
  · subst e
    rw [if_neg (by decide), if_neg (by decide), if_neg (by decide), if_neg (by decide), if_neg (by decide), if_neg (by decide), if_neg (by decide), if_pos (by decide), sp]
    rfl
  · subst e
    rw [if_neg (by decide), if_neg (by decide), if_neg (by decide), if_neg (by decide), if_neg (by decide), if_neg (by decide), if_neg (by decide), if_neg (by decide), if_pos (by decide), sp]
    rfl
  · subst e
    rw [if_neg (by decide), if_neg (by decide), if_neg (by decide), if_neg (by decide), if_neg (by decide), if_neg (by decide), if_neg (by decide), if_neg (by decide), if_neg (by decide), if_pos (by decide), sp]
    rfl
  · subst e
    rw [if_neg (by decide), if_neg (by decide), if_neg (by decide), if_neg (by decide), if_neg (by decide), if_neg (by decide), if_neg (by decide), if_neg (by decide), if_neg (by decide), if_neg (by decide), if_pos (by decide), nwl]
    exact nx_vwN N M n L (w := w_1 14 b s P) rfl rfl rfl rfl rfl (fun _ M' => some (some (M.1 + L.length), M'))
  · subst e
    rw [if_neg (by decide), if_neg (by decide), if_neg (by decide), if_neg (by decide), if_neg (by decide), if_neg (by decide), if_neg (by decide), if_neg (by decide), if_neg (by decide), if_neg (by decide), if_neg (by decide), if_pos (by decide), nwl]
    exact nx_vwN N M n L (w := w_1 15 b s P) rfl rfl rfl rfl rfl (fun _ M' => some (some (M.1 + L.length), M'))
theorem vw_second (N : Nat) (ha : sa < M.1) (h : M.2.2 sa = some (shL s P)) (hp : ∀ k, k < 3 → P k ≤ 64) {o : Nat} (ho : o < 5) (n : Nat) (L : List va_E) : jf_Vw_ofSecond N (nx M n L) (nI o) (some sa) = some (some (M.1 + L.length), nx M (n + 5) (L ++ [vwL (w_2 o P)])) := by
  have hs1 := old_sh ha h (n + 5) (L ++ [.inr (9, [.int 0, .int 0, .int 0, .int 0, .int 0])])
  obtain ⟨h0, h1, h2, h3, h4⟩ := sh_I hs1
  unfold jf_Vw_ofSecond jb_Vw_ofSecond_0 jb_Vw_ofSecond_27 w_2
  by_cases e : o = 4
  · rw [if_pos (show nI o = 4 by rw [e]; rfl), if_pos e, mj_nwE, nx_new, show (nx M n L).1 = M.1 + L.length from rfl, Option.bind_some, h3, Option.bind_some]
    exact nx_vwN N M n L (w := w5 0 0 0 1 (P 2)) rfl rfl rfl rfl rfl (fun _ M' => some (some (M.1 + L.length), M'))
  · rw [if_neg (show ¬ nI o = 4 by rw [show (4 : Int32) = nI 4 from rfl, nI_eq (by omega) (by omega)]; exact e), if_neg e, vw_spread N ha h hp n L]
    rfl
theorem sh_terms (N : Nat) {MM : mv_M} (h : MM.2.2 sa = some (shL s P)) (hs : s ≤ 3) {o b : Nat} (ho : o < 16) (hb : 5 ≤ o ∧ o < 8 → b < s) : jf_No_termsOf N MM (nI o) (nI b) (some sa) = some (nI (w_t o b s P), MM) := by
  obtain ⟨h0, h1, h2, h3, h4⟩ := sh_I h
  unfold jf_No_termsOf jb_No_termsOf_0
  obtain e | e | e | e | e | e | e | e | e | e | e | e | e | e | e | e := o_16 ho
  · subst e; rfl
  · subst e; rfl
  · subst e; rfl
  · subst e; rfl
  · subst e
    rw [if_pos (by decide), Option.bind_some, h3, Option.bind_some]
    rfl
  · subst e
    have := hb (by omega)
    rw [if_neg (by decide), if_pos (by decide), Option.bind_some, sh_ob h, sh_place N h hs, mj_callS, sh_ob h, sh_length N h (by omega), mj_callS]
    rfl
  · subst e
    have := hb (by omega)
    rw [if_neg (by decide), if_neg (by decide), if_pos (by decide), Option.bind_some, sh_ob h, sh_place N h hs, mj_callS, sh_ob h, sh_length N h (by omega), mj_callS]
    rfl
  · subst e
    have := hb (by omega)
    rw [if_neg (by decide), if_neg (by decide), if_neg (by decide), if_pos (by decide), Option.bind_some, sh_ob h, sh_place N h hs, mj_callS, sh_ob h, sh_length N h (by omega), mj_callS]
    rfl
  · subst e; rfl
  · subst e; rfl
  · subst e; rfl
  · subst e; rfl
  · subst e; rfl
  · subst e; rfl
  · subst e; rfl
  · subst e
    rw [if_neg (by decide), if_neg (by decide), if_neg (by decide), if_neg (by decide), if_neg (by decide), if_neg (by decide), if_neg (by decide), if_neg (by decide), if_neg (by decide), if_neg (by decide), if_neg (by decide), if_pos (by decide), Option.bind_some, h4, Option.bind_some]
    rfl
end VW
