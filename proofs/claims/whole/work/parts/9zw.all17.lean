/-! ALL OF IT, 17: the law begins -/
abbrev iPL (B : Nat) : va_E := .inr (0, [.ref (B + 1), .ref (B + 3), .ref (B + 8), .ref (B + 10), .ref (B + 13)])
abbrev s0 : kS := (fun _ => 0, fun _ => 0, fun _ _ => 0, fun _ _ => 0)
abbrev sP : kS := (fun _ => 0, fun j => if j = 18 then 1 else if j = 19 then 10 else 0, fun _ _ => 0, fun _ _ => 0)
abbrev sT : tS := (fun _ => 0, fun _ => en (fo 1 10), fun _ _ => 0, fun _ _ => 0, fun _ _ _ => 0)
theorem pl_put {M : mv_M} {n f : Nat} {R : List va_E} {fs : List Value} {v : Value} (hf : f < fs.length) : mj_put (nx M n (.inr (0, fs) :: R)) M.1 0 f v = some (nx M n (.inr (0, fs.set f v) :: R)) := nx_pN (L0 := []) hf
theorem pl_stage {β : Type} {M : mv_M} {n f ci m c a n' : Nat} {R : List va_E} {fs fs' gs : List Value} {I : Nat → List va_E} {init : mv_M → Nat → Option (Unit × mv_M)} {k : mv_M → Option β} (hI : ∀ n (L0 : List va_E), init (nx M n (L0 ++ [.inr (ci, gs)])) (M.1 + L0.length) = some ((), nx M (n + c) (L0 ++ I (M.1 + L0.length)))) (hf : f < fs.length) (ha : M.1 + (R.length + 1) = a) (hn : n + m + c = n') (h' : fs.set f (.ref a) = fs') : mj_nw (nx M n (.inr (0, fs) :: R)) ci m gs (fun q Mm => mj_call (init Mm q) fun _ Mm' => Option.bind (mj_put Mm' M.1 0 f (va_rf (some q))) k) = k (nx M n' (.inr (0, fs') :: (R ++ I a))) := by
  subst ha hn h'
  have e := hI (n + m) (.inr (0, fs) :: R)
  rw [mj_nwE, nx_new]
  show mj_call (init _ (M.1 + (Sum.inr (0, fs) :: R).length)) _ = _
  rw [e, mj_callS, List.cons_append, pl_put hf, Option.bind_some]
  rfl
theorem in_PL {N : Nat} (hN : 100 ≤ N) (M : mv_M) (n : Nat) : jf_PL_init N (nx M n [.inr (0, [.null, .null, .null, .null, .null])]) M.1 = some ((), nx M (n + 8391) (iPL M.1 :: ([] ++ iTp (M.1 + 1) ++ iTa (M.1 + 3) ++ iPy (M.1 + 8) ++ iSc (M.1 + 10) ++ iTk (M.1 + 13)))) := by
  unfold jf_PL_init jb_PL_init_0
  refine (pl_stage (n' := n + 54) (a := M.1 + 1) (I := iTp) (init := jf_Tp_init N) (in_Tp hN M) (Nat.le_of_ble_eq_true rfl) rfl (by omega) rfl).trans ?_
  refine (pl_stage (n' := n + 267) (a := M.1 + 3) (I := iTa) (init := jf_Ta_init N) (in_Ta N M) (Nat.le_of_ble_eq_true rfl) rfl (by omega) rfl).trans ?_
  refine (pl_stage (n' := n + 525) (a := M.1 + 8) (I := iPy) (init := jf_Py_init N) (in_Py N M) (Nat.le_of_ble_eq_true rfl) rfl (by omega) rfl).trans ?_
  refine (pl_stage (n' := n + 608) (a := M.1 + 10) (I := iSc) (init := jf_Sc_init N) (in_Sc N M) (Nat.le_of_ble_eq_true rfl) rfl (by omega) rfl).trans ?_
  refine (pl_stage (n' := n + 8391) (a := M.1 + 13) (I := iTk) (init := jf_Tk_init N) (in_Tk N M) (Nat.le_of_ble_eq_true rfl) rfl (by omega) rfl).trans ?_
  rfl
abbrev iAll (B : Nat) : List va_E := iPL B :: ([] ++ iTp (B + 1) ++ iTa (B + 3) ++ iPy (B + 8) ++ iSc (B + 10) ++ iTk (B + 13)) ++ iPM (B + 19)
theorem g_start (B n : Nat) : G1 B (nx (B, 0, fun _ => none) n (iAll B)) := by
  have at' : ∀ k, k < 40 → (nx (B, 0, fun _ => none) n (iAll B)).2.2 (B + k) = (iAll B)[k]? := fun k hk => nx_at (B, 0, fun _ => none) n (iAll B) hk
  have no : ∀ (p : Nat → Prop) (i : Nat), i < 0 → p i := fun p i hi => absurd hi (Nat.not_lt_zero i)
  refine ⟨s0, s0, s0, s0, sP, (0, fun _ => 0, fun _ => 0, fun _ => 0, fun _ => 0, fun _ _ => 0), (B + 1, fun _ => none), (0, fun _ _ => none, fun _ _ => 0, fun _ _ => none, fun _ _ => 0), sT, ⟨?_, ?_, ?_, ?_, ?_, ?_, ?_, rfl, ⟨fun i hi => absurd hi (Nat.not_lt_zero i), fun a q hq => (by cases hq), ⟨rfl, ?_⟩, fun i hi => absurd hi (Nat.not_lt_zero i), fun i hi => absurd hi (Nat.not_lt_zero i), fun i hi => absurd hi (Nat.not_lt_zero i)⟩, fun a => ?_, fun a q hq => (by cases hq), fun i hi => absurd hi (Nat.not_lt_zero i), fun i hi => absurd hi (Nat.not_lt_zero i)⟩, ⟨0, fun _ => 0, fun _ _ => 0, ⟨by omega, rfl, fun i hi => absurd hi (Nat.not_lt_zero i)⟩, ⟨by omega, rfl, fun i hi => absurd hi (Nat.not_lt_zero i)⟩, fun i hi => absurd hi (Nat.not_lt_zero i)⟩, ⟨0, by omega, rfl, rfl, fun j _ => ⟨rfl, (by show (-10000 : Int) ≤ (0 : Int32).toInt; decide), (by show (0 : Int32).toInt ≤ (10000 : Int); decide)⟩⟩, ⟨0, fun _ => 0, fun _ => false, ⟨by omega, rfl, fun i hi => absurd hi (Nat.not_lt_zero i)⟩, ⟨by omega, rfl, fun i hi => absurd hi (Nat.not_lt_zero i)⟩⟩, ⟨0, 0, fun _ => 0, fun _ => 0, fun _ => 0, fun _ => 0, ⟨by omega, by omega, rfl, rfl, fun i hi => absurd hi (Nat.not_lt_zero i), fun i hi => absurd hi (Nat.not_lt_zero i)⟩, ⟨by omega, by omega, rfl, rfl, fun i hi => absurd hi (Nat.not_lt_zero i), fun i hi => absurd hi (Nat.not_lt_zero i)⟩, ⟨fun i hi => absurd hi (Nat.not_lt_zero i), fun i hi => absurd hi (Nat.not_lt_zero i)⟩⟩, ⟨by show 0 ≤ 50; omega, fun i hi => absurd hi (Nat.not_lt_zero i)⟩, fun _ _ => none, 0, fun _ => false, fo 1 10, ?_, fun i hi => absurd hi (Nat.not_lt_zero i), ?_, fun j hj => (by cases hj), ⟨⟨rfl, rfl, fun i hi => absurd hi (Nat.not_lt_zero i)⟩, Nat.le_refl _, rfl, fun i hi => absurd hi (Nat.not_lt_zero i), fun i hi => absurd hi (Nat.not_lt_zero i), rfl⟩, ⟨⟨rfl, fun i hi => absurd hi (Nat.not_lt_zero i)⟩, fun i hi => absurd hi (Nat.not_lt_zero i), fun j _ => rfl, ?_, ?_⟩⟩
  · show B + 40 ≤ B + 40
    omega
  · exact at' 0 (by omega)
  · intro j hj
    have : j = 0 ∨ j = 1 ∨ j = 2 ∨ j = 3 ∨ j = 4 := by omega
    rcases this with e | e | e | e | e <;> subst e
    · exact at' 3 (by omega)
    · exact at' 4 (by omega)
    · exact at' 5 (by omega)
    · exact at' 6 (by omega)
    · exact at' 7 (by omega)
  · intro j hj
    have : j = 0 ∨ j = 1 := by omega
    rcases this with e | e <;> subst e
    · exact at' 8 (by omega)
    · exact at' 9 (by omega)
  · intro j hj
    have : j = 0 ∨ j = 1 ∨ j = 2 := by omega
    rcases this with e | e | e <;> subst e
    · exact at' 10 (by omega)
    · exact at' 11 (by omega)
    · exact at' 12 (by omega)
  · intro j hj
    have : j = 0 ∨ j = 1 ∨ j = 2 ∨ j = 3 ∨ j = 4 ∨ j = 5 := by omega
    rcases this with e | e | e | e | e | e <;> subst e
    · exact at' 13 (by omega)
    · exact at' 14 (by omega)
    · exact at' 15 (by omega)
    · exact at' 16 (by omega)
    · exact at' 17 (by omega)
    · exact at' 18 (by omega)
  · intro j hj
    have : j = 0 ∨ j = 1 ∨ j = 2 ∨ j = 3 ∨ j = 4 ∨ j = 5 ∨ j = 6 ∨ j = 7 ∨ j = 8 ∨ j = 9 ∨ j = 10 ∨ j = 11 ∨ j = 12 ∨ j = 13 ∨ j = 14 ∨ j = 15 ∨ j = 16 ∨ j = 17 ∨ j = 18 ∨ j = 19 ∨ j = 20 := by omega
    rcases this with e | e | e | e | e | e | e | e | e | e | e | e | e | e | e | e | e | e | e | e | e <;> subst e
    · exact at' 19 (by omega)
    · exact at' 20 (by omega)
    · exact at' 21 (by omega)
    · exact at' 22 (by omega)
    · exact at' 23 (by omega)
    · exact at' 24 (by omega)
    · exact at' 25 (by omega)
    · exact at' 26 (by omega)
    · exact at' 27 (by omega)
    · exact at' 28 (by omega)
    · exact at' 29 (by omega)
    · exact at' 30 (by omega)
    · exact at' 31 (by omega)
    · exact at' 32 (by omega)
    · exact at' 33 (by omega)
    · exact at' 34 (by omega)
    · exact at' 35 (by omega)
    · exact at' 36 (by omega)
    · exact at' 37 (by omega)
    · exact at' 38 (by omega)
    · exact at' 39 (by omega)
  · have : (fun j => if j < 0 then some 0 else none) = (fun _ => none : Nat → Option Nat) := by
      funext j
      rw [if_neg (Nat.not_lt_zero j)]
    show _ = some (Sum.inl (3, 50, Sum.inr (Sum.inr (Sum.inr (Sum.inr (fun j => if j < 0 then some 0 else none))))))
    rw [this]
    exact at' 2 (by omega)
  · by_cases e : a = B + 1
    · subst e
      exact (if_pos rfl).trans (at' 1 (by omega)).symm
    · exact if_neg e
  · intro i c
    exact fun r hr => by cases hr
  · exact fG_fo _ _
  · show (1 : Int64) = zL (pP (fo 1 10))
    rw [show pP (fo 1 10) = 1 by decide +kernel]
    rfl
  · show (10 : Int64) = zL (pQ (fo 1 10))
    rw [show pQ (fo 1 10) = 10 by decide +kernel]
    rfl
theorem law_pure (sa : (Nat → Nat) × Nat × (Nat → Int32)) (B : Nat) (h : sa.2.1 ≤ 3072) : ∃ (N : Nat) (M1 : mv_M), jb_LW_law_0 N sa (B, 0, fun _ => none) = some (1, M1) ∧ M1.1 ≤ B + 600000 ∧ M1.2.1 ≤ 7302250 := by
  obtain ⟨M1, q1, q2, q3⟩ := lw_loop (N := 4000) (Nat.le_refl _) h 4000 0 _ (by omega) (by omega) (g_start B (5 + 8391 + 37 + 14169))
  refine ⟨4000, M1, ?_, ?_, ?_⟩
  · rw [← q1]
    unfold jb_LW_law_0
    rw [mj_nwE]
    have e : mj_new (B, 0, fun _ => none) 0 5 [.null, .null, .null, .null, .null] = nx (B, 0, fun _ => none) 5 [.inr (0, [.null, .null, .null, .null, .null])] := by
      have := nx_new (B, 0, fun _ => none) 0 [] 0 5 [.null, .null, .null, .null, .null]
      rw [nx_nil] at this
      exact this
    rw [e]
    refine (congrArg (fun t => mj_call t _) (in_PL (N := 4000) (by omega) (B, 0, fun _ => none) 5)).trans ?_
    rw [mj_callS, mj_nwE, nx_new]
    refine (congrArg (fun t => mj_call t _) (in_PM 4000 (B, 0, fun _ => none) (5 + 8391 + 37) _ rfl)).trans ?_
    rfl
  · refine Nat.le_trans q2 ?_
    show B + 40 + 6 * 4000 ≤ B + 600000
    omega
  · refine Nat.le_trans q3 ?_
    show 0 + (5 + 8391 + 37 + 14169) + 160 * 4000 ≤ 7302250
    omega
