/-! MEMORY, PURE: how the memory's answers are reckoned -/
theorem mj_at_set (M : mv_M) (a : Nat) (x : va_E) : (mj_set M a x).2.2 a = some x := va_up_self _ _ _
theorem mj_at_ne {M : mv_M} {a b : Nat} {x : va_E} (h : b ≠ a) : (mj_set M a x).2.2 b = M.2.2 b := va_up_ne _ _ h
theorem mj_set_1 (M : mv_M) (a : Nat) (x : va_E) : (mj_set M a x).1 = M.1 := rfl
theorem mj_set_2 (M : mv_M) (a : Nat) (x : va_E) : (mj_set M a x).2.1 = M.2.1 := rfl
theorem mj_set_set (M : mv_M) (a : Nat) (x y : va_E) : mj_set (mj_set M a x) a y = mj_set M a y := by
  unfold mj_set
  simp only [Prod.mk.injEq, true_and]
  funext j
  by_cases h : j = a
  · subst h; simp [va_up]
  · simp [va_up, h]
theorem mj_set_self {M : mv_M} {a : Nat} {x : va_E} (h : M.2.2 a = some x) : mj_set M a x = M := by
  unfold mj_set
  have : va_up M.2.2 a (some x) = M.2.2 := by
    funext j
    by_cases hj : j = a
    · subst hj; simp [va_up, h]
    · simp [va_up, hj]
  rw [this]
theorem mj_get_of {M : mv_M} {a ci f : Nat} {fs : List Value} {v : Value} (h : M.2.2 a = some (.inr (ci, fs))) (hf : fs[f]? = some v) : mj_get M a ci f = some v := by simp [mj_get, h, hf]
theorem mj_getI_of {M : mv_M} {a ci f : Nat} {fs : List Value} {x : Int32} (h : M.2.2 a = some (.inr (ci, fs))) (hf : fs[f]? = some (.int x)) : mj_getI M a ci f = some x := by simp [mj_getI, mj_get_of h hf]
theorem mj_getL_of {M : mv_M} {a ci f : Nat} {fs : List Value} {x : Int64} (h : M.2.2 a = some (.inr (ci, fs))) (hf : fs[f]? = some (.long x)) : mj_getL M a ci f = some x := by simp [mj_getL, mj_get_of h hf]
theorem mj_getR_of {M : mv_M} {a ci f : Nat} {fs : List Value} {x : Option Nat} (h : M.2.2 a = some (.inr (ci, fs))) (hf : fs[f]? = some (va_rf x)) : mj_getR M a ci f = some x := by
  unfold mj_getR
  rw [mj_get_of h hf]
  cases x <;> rfl
theorem mj_put_of {M : mv_M} {a ci f : Nat} {fs : List Value} {v : Value} (h : M.2.2 a = some (.inr (ci, fs))) (hf : f < fs.length) : mj_put M a ci f v = some (mj_set M a (.inr (ci, fs.set f v))) := by simp [mj_put, h, hf]
theorem mj_arr_of {M : mv_M} {a t : Nat} {x : vp_A} (h : M.2.2 a = some (.inl (t, x))) : mj_arr M a t = some x := by simp [mj_arr, h]
theorem mj_in_of {i : Int32} {n : Nat} (h : vp_in i n) : mj_in i n = true := decide_eq_true h
theorem mj_in_nI {j n : Nat} (h : j < n) (hn : n < 2 ^ 31) : mj_in (nI j) n = true := mj_in_of (vp_in_nI h hn)
theorem mj_ild_of {M : mv_M} {a t n : Nat} {f : Nat → Int32} {i : Int32} (h : M.2.2 a = some (.inl (t, n, .inl f))) (hi : mj_in i n = true) : mj_ild M a t i = some (f i.toNatClampNeg) := by
  unfold mj_ild
  rw [mj_arr_of h]
  simp [hi]
theorem mj_lld_of {M : mv_M} {a t n : Nat} {f : Nat → Int64} {i : Int32} (h : M.2.2 a = some (.inl (t, n, .inr (.inl f)))) (hi : mj_in i n = true) : mj_lld M a t i = some (f i.toNatClampNeg) := by
  unfold mj_lld
  rw [mj_arr_of h]
  simp [hi]
theorem mj_rld_of {M : mv_M} {a t n : Nat} {f : Nat → Option Nat} {i : Int32} (h : M.2.2 a = some (.inl (t, n, .inr (.inr (.inr (.inr f)))))) (hi : mj_in i n = true) : mj_rld M a t i = some (f i.toNatClampNeg) := by
  unfold mj_rld
  rw [mj_arr_of h]
  simp [hi]
theorem mj_ist_of {M : mv_M} {a t n : Nat} {f : Nat → Int32} {i x : Int32} (h : M.2.2 a = some (.inl (t, n, .inl f))) (hi : mj_in i n = true) : mj_ist M a t i x = some (mj_set M a (.inl (t, n, .inl (upd f i.toNatClampNeg x)))) := by
  unfold mj_ist
  rw [mj_arr_of h]
  simp [hi]
theorem mj_lst_of {M : mv_M} {a t n : Nat} {f : Nat → Int64} {i : Int32} {x : Int64} (h : M.2.2 a = some (.inl (t, n, .inr (.inl f)))) (hi : mj_in i n = true) : mj_lst M a t i x = some (mj_set M a (.inl (t, n, .inr (.inl (vp_updL f i.toNatClampNeg x))))) := by
  unfold mj_lst
  rw [mj_arr_of h]
  simp [hi]
theorem mj_len_of {M : mv_M} {a t : Nat} {x : vp_A} (h : M.2.2 a = some (.inl (t, x))) : mj_len M a t = some (Int32.ofNat x.1) := by
  unfold mj_len
  rw [mj_arr_of h]
theorem mj_is_of {M : mv_M} {b ci : Nat} {fs : List Value} (h : M.2.2 b = some (.inr (ci, fs))) : mj_is M b ci = true := by
  unfold mj_is
  rw [h]
  simp
theorem mj_ob_of {β : Type} {M : mv_M} {b ci : Nat} {fs : List Value} {A : Option β} (h : M.2.2 b = some (.inr (ci, fs))) : mj_ob M b ci A = A := by
  unfold mj_ob
  rw [mj_is_of h]
  simp
theorem mj_call_of {α β : Type} {t : Option (α × mv_M)} {r : α} {M2 : mv_M} {f : α → mv_M → Option β} (h : t = some (r, M2)) : mj_call t f = f r M2 := by
  rw [h]; rfl
theorem mj_lg_ge (x y : Int64) : (0 ≤ lg_cmp x y) ↔ y ≤ x := lg_cmp_ge x y
theorem mj_lg_eq (x y : Int64) : (lg_cmp x y = 0) ↔ x = y := by
  unfold lg_cmp
  by_cases h : x > y
  · rw [if_pos h]
    constructor
    · intro q; exact absurd q (by decide)
    · intro q; subst q; exact absurd h (by simp [Int64.lt_iff_toInt_lt])
  · rw [if_neg h]
    by_cases e : x = y
    · rw [if_pos e]; exact ⟨fun _ => e, fun _ => rfl⟩
    · rw [if_neg e]
      constructor
      · intro q; exact absurd q (by decide)
      · intro q; exact absurd q e
theorem mv_cI (x : Int32) : (Value.int x).category = 1 := rfl
theorem mv_cJ (x : Int64) : (Value.long x).category = 2 := rfl
/-- the same for a member of a class that the machine has entries for, but none for this member -/
theorem mv_enterF {X : mv_X} {y : MethodName} {cc : ByteArray} {maxL : Nat} {ret : Option FieldType} {fr lo : Nat} {av : List Value} {M M1 : mv_M} {rv : Option Value} (hy : plainFor y = true) (hlen : (lg_sl av).length ≤ maxL)
    (h : mv_G X (cc, maxL, y.cls, y.name, ret, fr, lo) M M1 rv M 0 (lv_args 0 av) []) : mv_Met X y cc maxL ret fr lo av M rv M1 := by
  refine ⟨h.1, va_MetF (cc := cc) (maxL := maxL) (ret := ret) hy rfl ?_⟩
  intro p e s m args below meth c s₁ Bd hml hv
  obtain ⟨rfl, hok, hS0⟩ := hv
  have hts := atoms_spec (ws := Cond.code y cc maxL ret :: mx_Ts X) Bd.pre
  have hown : s.vm.findClass y.cls = some m.cls := findClass_of_methodNamed Bd.named
  have hl := lv_entry av (n := maxL) hlen
  rw [lg_entry_eq]
  have hW := h.2 p e s m av.toArray below meth c s.heap [] _ ⟨⟨Bd.exec, Bd.bytes, hml, hown, fun w hw => hts w (List.mem_cons_of_mem _ hw)⟩, hS0, Bd.returns, Bd.notSynchronized, fun hn => (name_of_methodNamed Bd.named Bd.method).1.trans hn⟩ hok va_S.rf (Nat.le_refl _) (Nat.le_refl _) hl
  rw [Nat.sub_self, Nat.sub_self] at hW
  exact hW
theorem nn_0 : (("PlainLearner", 9, ⟨"PlainLearner$Tape", "<init>", "()V"⟩, "PlainLearner") : String × Nat × MethodName × String) ∈ nmG := by decide +kernel
theorem nn_1 : (("PlainLearner", 18, ⟨"PlainLearner$Table", "<init>", "()V"⟩, "PlainLearner") : String × Nat × MethodName × String) ∈ nmG := by decide +kernel
theorem nn_2 : (("PlainLearner", 25, ⟨"PlainLearner$Players", "<init>", "()V"⟩, "PlainLearner") : String × Nat × MethodName × String) ∈ nmG := by decide +kernel
theorem nn_3 : (("PlainLearner", 32, ⟨"PlainLearner$Scores", "<init>", "()V"⟩, "PlainLearner") : String × Nat × MethodName × String) ∈ nmG := by decide +kernel
theorem nn_4 : (("PlainLearner", 39, ⟨"PlainLearner$Tokens", "<init>", "()V"⟩, "PlainLearner") : String × Nat × MethodName × String) ∈ nmG := by decide +kernel
