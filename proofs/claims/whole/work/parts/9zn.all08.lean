/-! ALL OF IT, 8: the call leaf -/
theorem c_len (N : Nat) (v : Int32) : kf_Sh_isLength N v = some (bI (1 ≤ v.toInt ∧ v.toInt ≤ 64)) := by
  have e1 : (1 : Int32).toInt = 1 := by decide
  have e64 : (64 : Int32).toInt = 64 := by decide
  unfold kf_Sh_isLength kb_Sh_isLength_0 kb_Sh_isLength_15 kb_Sh_isLength_16
  by_cases h1 : v < 1
  · rw [if_pos h1, bI_f (fun w => by rw [i32lt, e1] at h1; omega)]
    rfl
  · rw [if_neg h1]
    rw [i32lt, e1] at h1
    by_cases h2 : (64 : Int32) < v
    · rw [if_pos h2, bI_f (fun w => by rw [i32lt, e64] at h2; omega)]
      rfl
    · rw [if_neg h2, bI_t (by rw [i32lt, e64] at h2; omega)]
      rfl
abbrev shL (z : Nat) (P : Nat → Nat) : va_E := .inr (5, [.int (nI z), .int (nI (P 0)), .int (nI (P 1)), .int (nI (P 2)), .int (nI (c3 P))])
theorem shL_eq {s x y w : Int32} {z : Nat} {P : Nat → Nat} (hs : s = nI z) (h0 : x = nI (P 0)) (h1 : y = nI (P 1)) (h2 : w = nI (P 2)) : ((.inr (5, [.int s, .int x, .int y, .int w, .int ((x * y) * w)])) : va_E) = shL z P := by
  subst hs h0 h1 h2
  rw [nI_mul, nI_mul]
  rfl
theorem nx_sh0 {β : Type} (N : Nat) (M : mv_M) (s o m i : Int32) {z : Nat} {P : Nat → Nat} (hs : s = nI z) (h0 : o = nI (P 0)) (h1 : m = nI (P 1)) (h2 : i = nI (P 2)) (f : Unit → mv_M → Option β) : mj_call (jf_Sh_init N (mj_new M 5 5 [.int 0, .int 0, .int 0, .int 0, .int 0]) M.1 s o m i) f = f () (nx M 5 [shL z P]) := by
  have := nx_sh N M 0 [] s o m i f
  rw [nx_nil, shL_eq hs h0 h1 h2] at this
  exact this
theorem j_told_bad (N : Nat) (M : mv_M) (v a b c : Int32) (h : ¬ (0 ≤ v.toInt ∧ v.toInt ≤ 3)) : jf_Sh_told N M v a b c = some (none, M) := by
  have e0 : (0 : Int32).toInt = 0 := by decide
  have e3 : (3 : Int32).toInt = 3 := by decide
  unfold jf_Sh_told jb_Sh_told_0 jb_Sh_told_9
  by_cases h1 : v < 0
  · rw [if_pos h1]
  · rw [if_neg h1, if_neg]
    intro w
    rw [i32lt, e0] at h1
    rw [Int32.le_iff_toInt_le, e3] at w
    omega
theorem j_len {β : Type} (N : Nat) (M : mv_M) (v : Int32) (f : Int32 → mv_M → Option β) : mj_call (jf_Sh_isLength N M v) f = f (bI (1 ≤ v.toInt ∧ v.toInt ≤ 64)) M := by
  rw [lf_Sh_isLength, c_len, mj_callM]
theorem j_t48 (N : Nat) (M : mv_M) {z : Nat} (hz : z ≤ 3) (a b c : Int32) (g : ∀ q, q < z → 1 ≤ (ar3 a b c q).toInt ∧ (ar3 a b c q).toInt ≤ 64) : jb_Sh_told_48 N M (nI z) a b c = some (some M.1, nx M 5 [shL z (pd3 z (fun q => (ar3 a b c q).toNatClampNeg))]) := by
  have cl : ∀ q, q < z → ar3 a b c q = nI (ar3 a b c q).toNatClampNeg := fun q hq => (v_clamp (v := ar3 a b c q) (m := 64) (by have := g q hq; omega) (g q hq).2 (by omega)).2.1
  unfold jb_Sh_told_48
  obtain rfl | rfl | rfl | rfl : z = 0 ∨ z = 1 ∨ z = 2 ∨ z = 3 := by omega
  · rw [if_pos (show nI 0 = 0 by decide)]
    exact nx_sh0 N M 0 1 1 1 (z := 0) (P := pd3 0 (fun q => (ar3 a b c q).toNatClampNeg)) rfl rfl rfl rfl (fun _ M' => some (some M.1, M'))
  · rw [if_neg (show ¬ nI 1 = 0 by decide), if_pos (show nI 1 = 1 by decide)]
    exact nx_sh0 N M 1 1 1 a (z := 1) (P := pd3 1 (fun q => (ar3 a b c q).toNatClampNeg)) rfl rfl rfl (cl 0 (by omega)) (fun _ M' => some (some M.1, M'))
  · rw [if_neg (show ¬ nI 2 = 0 by decide), if_neg (show ¬ nI 2 = 1 by decide), if_pos (show nI 2 = 2 by decide)]
    exact nx_sh0 N M 2 1 a b (z := 2) (P := pd3 2 (fun q => (ar3 a b c q).toNatClampNeg)) rfl rfl (cl 0 (by omega)) (cl 1 (by omega)) (fun _ M' => some (some M.1, M'))
  · rw [if_neg (show ¬ nI 3 = 0 by decide), if_neg (show ¬ nI 3 = 1 by decide), if_neg (show ¬ nI 3 = 2 by decide)]
    exact nx_sh0 N M 3 a b c (z := 3) (P := pd3 3 (fun q => (ar3 a b c q).toNatClampNeg)) rfl (cl 0 (by omega)) (cl 1 (by omega)) (cl 2 (by omega)) (fun _ M' => some (some M.1, M'))
theorem j_told (N : Nat) (M : mv_M) {z : Nat} (hz : z ≤ 3) (a b c : Int32) : ((∃ q, q < z ∧ ¬ (1 ≤ (ar3 a b c q).toInt ∧ (ar3 a b c q).toInt ≤ 64)) → jf_Sh_told N M (nI z) a b c = some (none, M)) ∧ ((∀ q, q < z → 1 ≤ (ar3 a b c q).toInt ∧ (ar3 a b c q).toInt ≤ 64) → jf_Sh_told N M (nI z) a b c = some (some M.1, nx M 5 [shL z (pd3 z (fun q => (ar3 a b c q).toNatClampNeg))])) := by
  have e34 : jb_Sh_told_34 N M (nI z) a b c = if z = 3 ∧ ¬ (1 ≤ c.toInt ∧ c.toInt ≤ 64) then some (none, M) else jb_Sh_told_48 N M (nI z) a b c := by
    unfold jb_Sh_told_34 jb_Sh_told_46
    by_cases h : z = 3
    · rw [if_neg (by rw [show (2 : Int32) = nI 2 from rfl, nI_leI (by omega) (by omega)]; omega), j_len]
      by_cases g : 1 ≤ c.toInt ∧ c.toInt ≤ 64
      · rw [bI_t g, if_neg (by decide), if_neg (fun w => w.2 g)]
      · rw [bI_f g, if_pos rfl, if_pos ⟨h, g⟩]
    · rw [if_pos (by rw [show (2 : Int32) = nI 2 from rfl, nI_leI (by omega) (by omega)]; omega), if_neg (fun w => h w.1)]
  have e22 : jb_Sh_told_22 N M (nI z) a b c = if 2 ≤ z ∧ ¬ (1 ≤ b.toInt ∧ b.toInt ≤ 64) then some (none, M) else jb_Sh_told_34 N M (nI z) a b c := by
    unfold jb_Sh_told_22 jb_Sh_told_46
    by_cases h : 2 ≤ z
    · rw [if_neg (by rw [show (1 : Int32) = nI 1 from rfl, nI_leI (by omega) (by omega)]; omega), j_len]
      by_cases g : 1 ≤ b.toInt ∧ b.toInt ≤ 64
      · rw [bI_t g, if_neg (by decide), if_neg (fun w => w.2 g)]
      · rw [bI_f g, if_pos rfl, if_pos ⟨h, g⟩]
    · rw [if_pos (by rw [show (1 : Int32) = nI 1 from rfl, nI_leI (by omega) (by omega)]; omega), if_neg (fun w => h w.1)]
  have e0 : jf_Sh_told N M (nI z) a b c = if 1 ≤ z ∧ ¬ (1 ≤ a.toInt ∧ a.toInt ≤ 64) then some (none, M) else jb_Sh_told_22 N M (nI z) a b c := by
    unfold jf_Sh_told jb_Sh_told_0 jb_Sh_told_46
    rw [if_neg (by rw [show (0 : Int32) = nI 0 from rfl, nI_ltI (by omega) (by omega)]; omega), if_pos (by rw [show (3 : Int32) = nI 3 from rfl, nI_leI (by omega) (by omega)]; omega)]
    by_cases h : 1 ≤ z
    · rw [if_neg (by rw [show (0 : Int32) = nI 0 from rfl, nI_leI (by omega) (by omega)]; omega), j_len]
      by_cases g : 1 ≤ a.toInt ∧ a.toInt ≤ 64
      · rw [bI_t g, if_neg (by decide), if_neg (fun w => w.2 g)]
      · rw [bI_f g, if_pos rfl, if_pos ⟨h, g⟩]
    · rw [if_pos (by rw [show (0 : Int32) = nI 0 from rfl, nI_leI (by omega) (by omega)]; omega), if_neg (fun w => h w.1)]
  rw [e0, e22, e34]
  refine ⟨fun ⟨q, h, w⟩ => ?_, fun g => ?_⟩
  · by_cases c0 : 1 ≤ z ∧ ¬ (1 ≤ a.toInt ∧ a.toInt ≤ 64)
    · rw [if_pos c0]
    · rw [if_neg c0]
      by_cases c1 : 2 ≤ z ∧ ¬ (1 ≤ b.toInt ∧ b.toInt ≤ 64)
      · rw [if_pos c1]
      · rw [if_neg c1]
        refine if_pos ?_
        obtain rfl | rfl | rfl : q = 0 ∨ q = 1 ∨ q = 2 := by omega
        · exact absurd ⟨by omega, w⟩ c0
        · exact absurd ⟨by omega, w⟩ c1
        · exact ⟨by omega, w⟩
  · rw [if_neg (fun w => w.2 (g 0 (by omega))), if_neg (fun w => w.2 (g 1 (by omega))), if_neg (fun w => w.2 (g 2 (by omega)))]
    exact j_t48 N M hz a b c g
theorem GM_nx {B : Nat} {ta py sc tk pm : kS} {Λ : tQ} {ρ : tR} {τ : tS} {M : mv_M} (h : GM B ta py sc tk pm Λ ρ τ M) (n : Nat) (L : List va_E) : GM B ta py sc tk pm Λ ρ τ (nx M n L) := by
  have hB := h.1
  exact GM_add h (Nat.le_add_right _ _) (gT_mono h.2.2.2.2.2.2.2 (Nat.le_add_right _ _) (fun a ha => nx_old M n L (by omega))) (fun a ha _ _ => nx_old M n L (by omega))
/-- writing into the cell behind L0 -/
theorem nx_pN {M : mv_M} {n : Nat} {L0 R : List va_E} {ci f : Nat} {fs : List Value} {v : Value} (hf : f < fs.length) : mj_put (nx M n (L0 ++ .inr (ci, fs) :: R)) (M.1 + L0.length) ci f v = some (nx M n (L0 ++ .inr (ci, fs.set f v) :: R)) := by
  rw [nx_put (k := L0.length) (fs := fs) (by simp) hf]
  simp
theorem nx_gN {M : mv_M} {n : Nat} {L0 R : List va_E} {ci f : Nat} {fs : List Value} {x : Option Nat} (hf : fs[f]? = some (va_rf x)) : mj_getR (nx M n (L0 ++ .inr (ci, fs) :: R)) (M.1 + L0.length) ci f = some x := nx_getR (k := L0.length) (fs := fs) (by simp) hf
theorem nx_na {β : Type} {M : mv_M} {n c : Nat} {L : List va_E} (hc : c ≤ 64) (f : Nat → mv_M → Option β) : mj_na (nx M n L) 1 (nI c) ((nI c).toNatClampNeg, .inr (.inl (fun _ => 0))) f = f (M.1 + L.length) (nx M (n + c) (L ++ [.inl (1, c, .inr (.inl (fun _ => 0)))])) := by
  unfold mj_na
  rw [if_neg, nx_newa, nI_clamp (by omega)]
  · rfl
  · rw [nI_clamp (by omega)]
    rintro (w | w)
    · rw [show (0 : Int32) = nI 0 from rfl, nI_ltI (by omega) (by omega)] at w
      omega
    · omega
theorem nx_fill {N : Nat} (hN : 300 ≤ N) {M : mv_M} {n c k : Nat} {L : List va_E} {g : Nat → Int64} (hc : c ≤ 64) (h : L[k]? = some (.inl (1, c, .inr (.inl g)))) (x : Int64) : jf_Ja_fill1 N (nx M n L) (some (M.1 + k)) x = some ((), nx M n (L.set k (.inl (1, c, .inr (.inl (fun j => if j < c then x else g j)))))) := by
  have hk : k < L.length := by
    rcases Nat.lt_or_ge k L.length with w | w
    · exact w
    · rw [List.getElem?_eq_none w] at h
      cases h
  have lp : ∀ d i fu, d + i = c → d < fu → jb_Ja_fill1_6 N fu (nx M n (L.set k (.inl (1, c, .inr (.inl (fun j => if j < i then x else g j)))))) (some (M.1 + k)) x (nI i) (nI c) = some ((), nx M n (L.set k (.inl (1, c, .inr (.inl (fun j => if j < c then x else g j)))))) := by
    intro d
    induction d with
    | zero =>
      intro i fu hd hf
      obtain ⟨f', rfl⟩ : ∃ f', fu = f' + 1 := ⟨fu - 1, by omega⟩
      have : i = c := by omega
      subst this
      rw [jb_Ja_fill1_6, if_pos (Int32.le_refl _)]
    | succ d ih =>
      intro i fu hd hf
      obtain ⟨f', rfl⟩ : ∃ f', fu = f' + 1 := ⟨fu - 1, by omega⟩
      have gi : (nx M n (L.set k (.inl (1, c, .inr (.inl (fun j => if j < i then x else g j)))))).2.2 (M.1 + k) = some (.inl (1, c, .inr (.inl (fun j => if j < i then x else g j)))) := by
        rw [nx_at _ _ _ (by rw [List.length_set]; exact hk)]
        simp [hk]
      have up : vp_updL (fun j => if j < i then x else g j) i x = fun j => if j < i + 1 then x else g j := by
        funext j
        unfold vp_updL
        by_cases e : j = i
        · rw [if_pos e, if_pos (by omega)]
        · rw [if_neg e]
          show (if j < i then x else g j) = _
          by_cases q : j < i
          · rw [if_pos q, if_pos (by omega)]
          · rw [if_neg q, if_neg (by omega)]
      have g2 := ih (i + 1) f' (by omega) (by omega)
      rw [jb_Ja_fill1_6, if_neg (by rw [nI_leI (by omega) (by omega)]; omega), Option.bind_some, kw_lst gi, if_pos (mj_in_nI (by omega) (by omega)), nI_clamp (by omega), up, Option.bind_some, nx_set _ _ _ (by rw [List.length_set]; exact hk), List.set_set, nI_1]
      exact g2
  have g0 : (nx M n L).2.2 (M.1 + k) = some (.inl (1, c, .inr (.inl g))) := (nx_at M n L hk).trans h
  have e0 : L.set k (.inl (1, c, .inr (.inl (fun j => if j < 0 then x else g j)))) = L := by
    have : (fun j => if j < 0 then x else g j) = g := by
      funext j
      rw [if_neg (by omega)]
    rw [this]
    apply List.ext_getElem?
    intro j
    by_cases e : k = j
    · subst e
      rw [List.getElem?_set_self hk, h]
    · rw [List.getElem?_set_ne e]
  unfold jf_Ja_fill1 jb_Ja_fill1_0
  rw [Option.bind_some, mj_len_of g0, Option.bind_some]
  have := lp c 0 N (by omega) (by omega)
  rw [e0] at this
  exact this
