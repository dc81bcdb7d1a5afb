/-! ALL OF IT, 6: a node more, class and memory -/
theorem cTp_new {X : tX} {V : tF} {fr : Nat} {pm : Nat → Bool} {rt : Option Rat} {ρ : tR} {τ : tS} (ok : x_ok X) (xv : xV X V) (h : cTp X V fr pm rt ρ τ) {o a b z : Nat} {P : Nat → Nat} (ho : o ≤ 16) (ha : o < 16 → a < x_n X) (hb : o < 5 → b < x_n X) (pmF : pm (x_n X) = false) {rR : Nat → Option Nat} {hH : Nat → Int32} {wW : Nat → Option (Nat → Int32)} {aA : Nat → Nat} {iN : Nat → Int32} {vN : Nat → Nat → Int64}
    (H : hH 0 = nI z ∧ hH 1 = nI (P 0) ∧ hH 2 = nI (P 1) ∧ hH 3 = nI (P 2) ∧ hH 4 = nI (c3 P)) (I1 : iN 1 = oI o o ∧ iN 2 = oI o a ∧ iN 3 = oI o b) (I11 : iN 11 = 0) (L1 : o = 16 → rR 4 = none)
    (L2 : o < 16 → rR 4 = some a ∧ wW 6 = some (fun c => nI (w_1 o b (x_s X a) (x_P X a) c)) ∧ iN 8 = nI (w_t o b (x_s X a) (x_P X a))) (L3 : o < 5 → rR 5 = some b ∧ wW 7 = some (fun c => nI (w_2 o (x_P X b) c))) (L4 : 5 ≤ o → rR 5 = none ∧ wW 7 = none) (V9 : o = 16 → ∀ c, c < c3 P → vN 9 c = 1) : cTp (xE X o a b z P) (VE X V o a b z P) fr pm rt (rE ρ rR hH wW aA) (tE (x_n X) τ iN vN) := by
  obtain ⟨hc, h1, h2, h3, h4, h5⟩ := h
  have tn : t_n ρ = x_n X := hc.1
  have hn := ok.1
  obtain ⟨n1, n2, n3', n4, n5⟩ := xE_new X o a b z P
  refine ⟨⟨?_, ?_, fun i hi => ?_⟩, by rw [xE_n]; omega, ?_, fun j hj w c hc' => ?_, fun j hj => ?_, h5⟩
  · show t_n ρ + 1 = x_n X + 1
    rw [tn]
  · show upd τ.1 1 (nI (x_n X + 1)) 1 = _
    rw [upd_at, if_pos rfl]
    rfl
  · rw [xE_n] at hi
    by_cases e : i = x_n X
    · have et : i = t_n ρ := by rw [tn]; exact e
      have hh : ∀ f, t_H (rE ρ rR hH wW aA) i f = hH f := fun f => if_pos et
      have hr : ∀ f, t_R (rE ρ rR hH wW aA) i f = rR f := fun f => if_pos et
      have hw : ∀ f, t_W (rE ρ rR hH wW aA) i f = wW f := fun f => if_pos et
      have hi' : (tE (x_n X) τ iN vN).2.2.1 i = iN := if_pos e
      rw [hh 0, hh 1, hh 2, hh 3, hh 4, hr 4, hr 5, hw 6, hw 7, hi', e]
      have xc : x_c (xE X o a b z P) (x_n X) = c3 P := by
        unfold x_c
        rw [n5]
      rw [n1, n2, n3', n4, n5, xc]
      refine ⟨H, I1, L1, fun h16 => ?_, fun h5 => ?_, L4⟩
      · obtain ⟨q1, q2, q3⟩ := L2 h16
        obtain ⟨a1, a2, a3, a4, a5⟩ := xE_eq X o a b z P a (ha h16)
        have xt : x_t (xE X o a b z P) (x_n X) = w_t o b (x_s X a) (x_P X a) := by
          unfold x_t
          rw [n1, n2, n3', a4, a5]
        rw [a4, a5, xt]
        exact ⟨q1, q2, q3⟩
      · obtain ⟨q1, q2⟩ := L3 h5
        obtain ⟨b1, b2, b3, b4, b5⟩ := xE_eq X o a b z P b (hb h5)
        rw [b5]
        exact ⟨q1, q2⟩
    · have hi2 : i < x_n X := by omega
      have et : i ≠ t_n ρ := by rw [tn]; exact e
      have hh : ∀ f, t_H (rE ρ rR hH wW aA) i f = t_H ρ i f := fun f => if_neg et
      have hr : ∀ f, t_R (rE ρ rR hH wW aA) i f = t_R ρ i f := fun f => if_neg et
      have hw : ∀ f, t_W (rE ρ rR hH wW aA) i f = t_W ρ i f := fun f => if_neg et
      have hi' : (tE (x_n X) τ iN vN).2.2.1 i = τ.2.2.1 i := if_neg e
      obtain ⟨g1, g2, g3, g4, g5, g6⟩ := hc.2.2 i hi2
      obtain ⟨e1, e2, e3, e4, e5⟩ := xE_eq X o a b z P i hi2
      rw [hh 0, hh 1, hh 2, hh 3, hh 4, hr 4, hr 5, hw 6, hw 7, hi', x_eqc (xE_eq X o a b z P) hi2, e1, e2, e3, e4, e5]
      refine ⟨g1, g2, g3, fun h16 => ?_, fun h5 => ?_, g6⟩
      · have l := x_lt ok hi2 h16
        obtain ⟨q1, q2, q3⟩ := g4 h16
        obtain ⟨a1, a2, a3, a4, a5⟩ := xE_eq X o a b z P (x_a X i) l.2.1
        rw [a4, a5, (x_equ (xE_eq X o a b z P) hi2 l.2.1).1]
        exact ⟨q1, q2, q3⟩
      · have l := x_lt2 ok hi2 h5
        obtain ⟨q1, q2⟩ := g5 h5
        obtain ⟨b1, b2, b3, b4, b5⟩ := xE_eq X o a b z P (x_b X i) l.2.1
        rw [b5]
        exact ⟨q1, q2⟩
  · show upd τ.1 1 (nI (x_n X + 1)) 3 = _
    rw [upd_at, if_neg (by decide)]
    exact h2
  · rw [xE_n] at hj
    by_cases e : j = x_n X
    · have ho16 : o = 16 := by
        rcases w with w | w
        · omega
        · rw [e, n1] at w
          exact w
      have hv' : (tE (x_n X) τ iN vN).2.2.2.2 j = vN := if_pos e
      rw [hv', e]
      subst ho16
      rw [VE_leaf, en_Z]
      refine V9 rfl c ?_
      rw [e] at hc'
      unfold x_c at hc'
      rw [n5] at hc'
      exact hc'
    · have hj2 : j < x_n X := by omega
      have hv' : (tE (x_n X) τ iN vN).2.2.2.2 j = τ.2.2.2.2 j := if_neg e
      rw [hv', VE_old ok xv o a b z P hj2]
      refine h3 j hj2 ?_ c (by rw [← x_eqc (xE_eq X o a b z P) hj2]; exact hc')
      rw [(xE_eq X o a b z P j hj2).1] at w
      exact w
  · rw [xE_n] at hj
    by_cases e : j = x_n X
    · have hi' : (tE (x_n X) τ iN vN).2.2.1 j = iN := if_pos e
      rw [hi', e, I11, pmF]
      rfl
    · have hi' : (tE (x_n X) τ iN vN).2.2.1 j = τ.2.2.1 j := if_neg e
      rw [hi']
      exact h4 j (by omega)
theorem GM_add {B : Nat} {ta py sc tk pm : kS} {Λ Λ' : tQ} {ρ ρ' : tR} {τ τ' : tS} {M M' : mv_M} (h : GM B ta py sc tk pm Λ ρ τ M) (hM : M.1 ≤ M'.1) (hT : gT B Λ' ρ' τ' M') (c0 : ∀ a, a < B + 40 → a ≠ B + 1 → a ≠ B + 2 → M'.2.2 a = M.2.2 a) : GM B ta py sc tk pm Λ' ρ' τ' M' := by
  obtain ⟨h1, h2, h3, h4, h5, h6, h7, h8⟩ := h
  have wo : ∀ o K c, B + 3 ≤ o → o + K < B + 40 → gW o K c M → gW o K c M' := fun o K c ho hk hw j hj => by
    rw [c0 _ (by omega) (by omega) (by omega)]
    exact hw j hj
  refine ⟨by omega, ?_, wo _ _ _ (by omega) (by omega) h3, wo _ _ _ (by omega) (by omega) h4, wo _ _ _ (by omega) (by omega) h5, wo _ _ _ (by omega) (by omega) h6, wo _ _ _ (by omega) (by omega) h7, hT⟩
  show M'.2.2 B = _
  rw [c0 _ (by omega) (by omega) (by omega)]
  exact h2
/-! new cells, one behind the other -/
def nx (M : mv_M) (n : Nat) (L : List va_E) : mv_M := (M.1 + L.length, M.2.1 + n, fun a => if M.1 ≤ a ∧ a < M.1 + L.length then L[a - M.1]? else M.2.2 a)
theorem nx_old (M : mv_M) (n : Nat) (L : List va_E) {a : Nat} (h : a < M.1) : (nx M n L).2.2 a = M.2.2 a := if_neg (by omega)
theorem nx_at (M : mv_M) (n : Nat) (L : List va_E) {k : Nat} (h : k < L.length) : (nx M n L).2.2 (M.1 + k) = L[k]? := by
  show (if M.1 ≤ M.1 + k ∧ M.1 + k < M.1 + L.length then L[M.1 + k - M.1]? else _) = _
  rw [if_pos ⟨by omega, by omega⟩, show M.1 + k - M.1 = k by omega]
theorem nx_nil (M : mv_M) : nx M 0 [] = M := by
  show (M.1 + 0, M.2.1 + 0, fun a => if M.1 ≤ a ∧ a < M.1 + 0 then _ else M.2.2 a) = M
  have : (fun a => if M.1 ≤ a ∧ a < M.1 + 0 then ([] : List va_E)[a - M.1]? else M.2.2 a) = M.2.2 := by
    funext a
    rw [if_neg (by omega)]
  rw [this]
  rfl
theorem nx_up (M : mv_M) (n m : Nat) (L : List va_E) (x : va_E) : (nx M n L).1 + 1 = (nx M (n + m) (L ++ [x])).1 ∧ ((M.1 + L.length + 1, M.2.1 + n + m, va_up (nx M n L).2.2 (M.1 + L.length) (some x)) : mv_M) = nx M (n + m) (L ++ [x]) := by
  refine ⟨by show M.1 + L.length + 1 = M.1 + (L ++ [x]).length; rw [List.length_append]; rfl, ?_⟩
  have : va_up (nx M n L).2.2 (M.1 + L.length) (some x) = (nx M (n + m) (L ++ [x])).2.2 := by
    funext a
    show _ = (if M.1 ≤ a ∧ a < M.1 + (L ++ [x]).length then (L ++ [x])[a - M.1]? else M.2.2 a)
    rw [List.length_append]
    by_cases e : a = M.1 + L.length
    · subst e
      rw [va_up_self, if_pos ⟨by omega, by show _ < M.1 + (L.length + 1); omega⟩, show M.1 + L.length - M.1 = L.length by omega]
      simp
    · rw [va_up_ne _ _ e]
      show (if M.1 ≤ a ∧ a < M.1 + L.length then L[a - M.1]? else M.2.2 a) = _
      by_cases w : M.1 ≤ a ∧ a < M.1 + L.length
      · rw [if_pos w, if_pos ⟨w.1, by show a < M.1 + (L.length + 1); omega⟩, List.getElem?_append_left (by omega)]
      · rw [if_neg w, if_neg (fun q => by have h2 : a < M.1 + (L.length + 1) := q.2; omega)]
  rw [this]
  show _ = (M.1 + (L ++ [x]).length, M.2.1 + (n + m), (nx M (n + m) (L ++ [x])).2.2)
  rw [List.length_append, Nat.add_assoc M.2.1]
  rfl
theorem nx_new (M : mv_M) (n : Nat) (L : List va_E) (ci m : Nat) (fs : List Value) : mj_new (nx M n L) ci m fs = nx M (n + m) (L ++ [.inr (ci, fs)]) := (nx_up M n m L (.inr (ci, fs))).2
theorem nx_newa (M : mv_M) (n : Nat) (L : List va_E) (t : Nat) (m : Int32) (x : vp_A) : mj_newa (nx M n L) t m x = nx M (n + m.toNatClampNeg) (L ++ [.inl (t, x)]) := (nx_up M n m.toNatClampNeg L (.inl (t, x))).2
theorem nx_set (M : mv_M) (n : Nat) (L : List va_E) {k : Nat} (h : k < L.length) (x : va_E) : mj_set (nx M n L) (M.1 + k) x = nx M n (L.set k x) := by
  have : va_up (nx M n L).2.2 (M.1 + k) (some x) = (nx M n (L.set k x)).2.2 := by
    funext a
    show _ = (if M.1 ≤ a ∧ a < M.1 + (L.set k x).length then (L.set k x)[a - M.1]? else M.2.2 a)
    rw [List.length_set]
    by_cases e : a = M.1 + k
    · subst e
      rw [va_up_self, if_pos ⟨by omega, by omega⟩, show M.1 + k - M.1 = k by omega]
      simp [h]
    · rw [va_up_ne _ _ e]
      show (if M.1 ≤ a ∧ a < M.1 + L.length then L[a - M.1]? else M.2.2 a) = _
      by_cases w : M.1 ≤ a ∧ a < M.1 + L.length
      · rw [if_pos w, if_pos w, List.getElem?_set_ne (by omega)]
      · rw [if_neg w, if_neg w]
  show (M.1 + L.length, M.2.1 + n, va_up (nx M n L).2.2 (M.1 + k) (some x)) = (M.1 + (L.set k x).length, M.2.1 + n, (nx M n (L.set k x)).2.2)
  rw [this, List.length_set]
theorem nx_seto (M : mv_M) (n : Nat) (L : List va_E) {a : Nat} (h : a < M.1) (x : va_E) : mj_set (nx M n L) a x = nx (mj_set M a x) n L := by
  have : va_up (nx M n L).2.2 a (some x) = (nx (mj_set M a x) n L).2.2 := by
    funext b
    show _ = (if M.1 ≤ b ∧ b < M.1 + L.length then L[b - M.1]? else va_up M.2.2 a (some x) b)
    by_cases e : b = a
    · subst e
      rw [va_up_self, if_neg (by omega), va_up_self]
    · rw [va_up_ne _ _ e, va_up_ne _ _ e]
      rfl
  show (M.1 + L.length, M.2.1 + n, va_up (nx M n L).2.2 a (some x)) = (M.1 + L.length, M.2.1 + n, (nx (mj_set M a x) n L).2.2)
  rw [this]
theorem nx_put {M : mv_M} {n : Nat} {L : List va_E} {k ci f : Nat} {fs : List Value} {v : Value} (h : L[k]? = some (.inr (ci, fs))) (hf : f < fs.length) : mj_put (nx M n L) (M.1 + k) ci f v = some (nx M n (L.set k (.inr (ci, fs.set f v)))) := by
  have hk : k < L.length := by
    rcases Nat.lt_or_ge k L.length with w | w
    · exact w
    · rw [List.getElem?_eq_none w] at h
      cases h
  rw [mj_put_of ((nx_at M n L hk).trans h) hf, nx_set M n L hk]
theorem nx_getI {M : mv_M} {n : Nat} {L : List va_E} {k ci f : Nat} {fs : List Value} {x : Int32} (h : L[k]? = some (.inr (ci, fs))) (hf : fs[f]? = some (.int x)) : mj_getI (nx M n L) (M.1 + k) ci f = some x := by
  have hk : k < L.length := by
    rcases Nat.lt_or_ge k L.length with w | w
    · exact w
    · rw [List.getElem?_eq_none w] at h
      cases h
  exact mj_getI_of ((nx_at M n L hk).trans h) hf
theorem nx_getR {M : mv_M} {n : Nat} {L : List va_E} {k ci f : Nat} {fs : List Value} {x : Option Nat} (h : L[k]? = some (.inr (ci, fs))) (hf : fs[f]? = some (va_rf x)) : mj_getR (nx M n L) (M.1 + k) ci f = some x := by
  have hk : k < L.length := by
    rcases Nat.lt_or_ge k L.length with w | w
    · exact w
    · rw [List.getElem?_eq_none w] at h
      cases h
  exact mj_getR_of ((nx_at M n L hk).trans h) hf
theorem nx_oI {M : mv_M} {n : Nat} {L : List va_E} {a ci f : Nat} {fs : List Value} {x : Int32} (ha : a < M.1) (h : M.2.2 a = some (.inr (ci, fs))) (hf : fs[f]? = some (.int x)) : mj_getI (nx M n L) a ci f = some x := mj_getI_of ((nx_old M n L ha).trans h) hf
theorem nx_oR {M : mv_M} {n : Nat} {L : List va_E} {a ci f : Nat} {fs : List Value} {x : Option Nat} (ha : a < M.1) (h : M.2.2 a = some (.inr (ci, fs))) (hf : fs[f]? = some (va_rf x)) : mj_getR (nx M n L) a ci f = some x := mj_getR_of ((nx_old M n L ha).trans h) hf
theorem nx_ob {β : Type} {M : mv_M} {n : Nat} {L : List va_E} {a ci : Nat} {fs : List Value} {A : Option β} (ha : a < M.1) (h : M.2.2 a = some (.inr (ci, fs))) : mj_ob (nx M n L) a ci A = A := mj_ob_of ((nx_old M n L ha).trans h)
/-- a new shape, a new view -/
theorem nx_sh {β : Type} (N : Nat) (M : mv_M) (n : Nat) (L : List va_E) (s o m i : Int32) (f : Unit → mv_M → Option β) : mj_call (jf_Sh_init N (mj_new (nx M n L) 5 5 [.int 0, .int 0, .int 0, .int 0, .int 0]) (nx M n L).1 s o m i) f = f () (nx M (n + 5) (L ++ [.inr (5, [.int s, .int o, .int m, .int i, .int ((o * m) * i)])])) := by
  have g : ∀ (x y : va_E), (L ++ [x])[L.length]? = some x ∧ (L ++ [x]).set L.length y = L ++ [y] := fun x y => by
    refine ⟨by simp, by simp⟩
  unfold jf_Sh_init jb_Sh_init_0
  rw [nx_new, show (nx M n L).1 = M.1 + L.length from rfl]
  rw [nx_put (g _ (.inl (0, 0, .inl (fun _ => 0)))).1 (Nat.le_of_ble_eq_true rfl), Option.bind_some, (g _ _).2, nx_put (g _ (.inl (0, 0, .inl (fun _ => 0)))).1 (Nat.le_of_ble_eq_true rfl), Option.bind_some, (g _ _).2, nx_put (g _ (.inl (0, 0, .inl (fun _ => 0)))).1 (Nat.le_of_ble_eq_true rfl), Option.bind_some, (g _ _).2, nx_put (g _ (.inl (0, 0, .inl (fun _ => 0)))).1 (Nat.le_of_ble_eq_true rfl), Option.bind_some, (g _ _).2, nx_put (g _ (.inl (0, 0, .inl (fun _ => 0)))).1 (Nat.le_of_ble_eq_true rfl), Option.bind_some, (g _ _).2]
  rfl
theorem nx_vw {β : Type} (N : Nat) (M : mv_M) (n : Nat) (L : List va_E) (s o m i t : Int32) (f : Unit → mv_M → Option β) : mj_call (jf_Vw_init N (mj_new (nx M n L) 9 5 [.int 0, .int 0, .int 0, .int 0, .int 0]) (nx M n L).1 s o m i t) f = f () (nx M (n + 5) (L ++ [.inr (9, [.int s, .int o, .int m, .int i, .int t])])) := by
  have g : ∀ (x y : va_E), (L ++ [x])[L.length]? = some x ∧ (L ++ [x]).set L.length y = L ++ [y] := fun x y => by
    refine ⟨by simp, by simp⟩
  unfold jf_Vw_init jb_Vw_init_0
  rw [nx_new, show (nx M n L).1 = M.1 + L.length from rfl]
  rw [nx_put (g _ (.inl (0, 0, .inl (fun _ => 0)))).1 (Nat.le_of_ble_eq_true rfl), Option.bind_some, (g _ _).2, nx_put (g _ (.inl (0, 0, .inl (fun _ => 0)))).1 (Nat.le_of_ble_eq_true rfl), Option.bind_some, (g _ _).2, nx_put (g _ (.inl (0, 0, .inl (fun _ => 0)))).1 (Nat.le_of_ble_eq_true rfl), Option.bind_some, (g _ _).2, nx_put (g _ (.inl (0, 0, .inl (fun _ => 0)))).1 (Nat.le_of_ble_eq_true rfl), Option.bind_some, (g _ _).2, nx_put (g _ (.inl (0, 0, .inl (fun _ => 0)))).1 (Nat.le_of_ble_eq_true rfl), Option.bind_some, (g _ _).2]
  rfl
