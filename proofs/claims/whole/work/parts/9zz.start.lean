/-! THE CLAIM OUT OF ONE WALK OF THE LAW'S BODY. Your part is whole_start (and what it stands on); all else here is the same for every law, but numbers. -/
def R_law : String := "PlainLearnerLaw"
def lw_P (b : Addr) (xs : List Int32) (args : Array Value) (s : State) : Prop := args = #[.ref b] ∧ s.IntsAt b xs ∧ xs.length ≤ 3072 ∧ (Jvm.Cond.and given_1 narrow_1).before args s = true
def lw_Q (_ : Array Value) (s : State) (o : Outcome) (t : State) : Prop := o = .returned (some (.int 1)) ∧ Framed s o t [] 600000 7302250
def lw_Z (below : List Frame) (a : Array Value) (s : State) : State → Prop := fun t => ∃ o, t.status = .running ∧ Ended t below o ∧ lw_Q a s o t
/-- the law's own end, with 1 on the stack, nothing written that was there before, its room as the claim has it -/
theorem lw_ret {p : Program} {l : Launch} {e : Env} {s : State} {m : MethodId} {below : List Frame} {meth : Method} {c : Code} {b : Nat} (hx : p.tables.exec = Jvm.exec) (hb : c.code = code) (hr : meth.sig.returnType = ret) (hlocks : meth.locks = false) {pc : Nat} {H : Heap} {ls : Array Slot} (hdg : decode code pc = .ok (.ireturn, 1)) : W p l e room_1 s m #[Value.ref b] below meth c H [] 600000 7302250 (lw_Z below #[Value.ref b] s) (F0 m pc ls [.int 1]) := by
  intro T hT X
  obtain ⟨fs, hret, hrun, hended, hW, hframe⟩ := X.leave (v := some (.int 1)) (hlocks := hlocks) (fun h => by rw [hr] at h; cases h)
  have hmeth' : T.vm.method? m = some meth := X.method'
  refine ⟨T.setFrames fs, ?_, .returned (some (.int 1)), hrun, hended, rfl, ⟨_, rfl⟩, hW, hframe⟩
  jvm_step X.here [X.here.top, hx, hb, hdg, hmeth', hr, ret, narrow_b1]
  (try refine ⟨rfl, ?_⟩); (try refine ⟨rfl, ?_⟩)
  first | (intro acts; rw [hret _ acts rfl rfl rfl]) | rw [hret _ _ rfl rfl rfl]
  exact Steps.refl _
/-- what holds at the law's entry: the machine, the code, the tables' words (any of lw_tbl by 'hts w (by decide +kernel)'), the script of L ints xs at the cell b, what the Statement gives of the start (any of its parts by flat_of_before) -/
def lw_At (p : Program) (s : State) (m : MethodId) (meth : Method) (c : Code) (b L : Nat) (xs : Nat → Int32) : Prop :=
  p.tables.exec = Jvm.exec ∧ c.code = code ∧ meth.sig.returnType = ret ∧ c.maxLocals = 4 ∧ s.vm.findClass R_law = some m.cls ∧ (∀ w ∈ lw_tbl, w.before #[Value.ref b] s = true) ∧ va_X b L xs s s.heap ∧ b < s.heap.size ∧ meth.locks = false ∧ (Jvm.Cond.and given_1 narrow_1).before #[Value.ref b] s = true
def lw_QQ (B b : Nat) : List Frame → Array Value → State → State → Prop := fun below args s t => (s.heap.size = B ∧ args = #[Value.ref b]) → lw_Z below #[Value.ref b] s t
theorem lw_hend (l : Launch) (D : va_G) (E : Nat → ClassId) (B : Nat) (sa : (Nat → Nat) × Nat × (Nat → Int32)) (b : Nat) (M0 : mv_M) : ∀ (M : mv_M) (pc : Nat) (lv : List (Nat × Value)), M.1 ≤ M0.1 + 600000 → M.2.1 ≤ M0.2.1 + 7302250 → decode code pc = .ok (.ireturn, 1) → mv_H (xg l D E B sa) kd_LW_law M0 (M0.1 + 600000) (M0.2.1 + 7302250) (lw_QQ B b) M pc lv [.int 1] := by
  intro M pc lv h1 h2 hdg
  refine ⟨⟨h1, h2⟩, fun p e s m args below meth c H locs ls C' hok hS g1 g2 hl => ?_⟩
  by_cases hc : s.heap.size = B ∧ args = #[Value.ref b]
  · obtain ⟨hB, rfl⟩ := hc
    have hR : mv_R kd_LW_law M0 (M0.1 + 600000) (M0.2.1 + 7302250) = room_1 := by
      unfold mv_R room_1
      simp [mk_fr, mk_lo]
    rw [hR]
    refine W.widen (k := 600000) (n := 7302250) (by omega) (by omega) ?_
    refine va_forget (fun q hq => by have h9 : B ≤ q.base := hS.2.2 q hq; omega) ?_
    intro T hT XX
    obtain ⟨t, a1, b1⟩ := lw_ret (b := b) C'.1.1 C'.1.2.1 C'.2.2.1 C'.2.2.2.1 hdg T hT XX
    exact ⟨t, a1, fun _ => b1⟩
  · intro T hT XX
    exact ⟨_, Steps.refl _, fun h => absurd h hc⟩
set_option maxHeartbeats 4000000 in
set_option maxRecDepth 100000 in
/-- the tables' facts at the law's entry -/
theorem lw_world {s : State} {b L : Nat} {xs : Nat → Int32} (l : Launch) (hts : ∀ w ∈ lw_tbl, w.before #[Value.ref b] s = true) (hX : va_X b L xs s s.heap) (hbl : b < s.heap.size) (hgv : (Jvm.Cond.and given_1 narrow_1).before #[Value.ref b] s = true) : ∃ (D : va_G) (E : Nat → ClassId) (ad : Nat → Nat), ad 1 = b ∧ mv_S0 (xg l D E s.heap.size (ad, L, xs)) s := by
  obtain ⟨c0, iS0, hKn0⟩ := u_known (C := "PlainLearner") (T := FF_0) (N := 5) (n := 5) hts (fun w hw => (List.mem_filter.mp (uw_0 w hw)).1) (hts (.instantiable "PlainLearner" 5) (List.mem_append_right _ (List.mem_append_left _ (List.mem_of_getElem? (i := 18) (by decide +kernel)))))
  obtain ⟨c1, iS1, hKn1⟩ := u_known (C := "PlainLearnerModel") (T := FF_1) (N := 37) (n := 37) hts (fun w hw => (List.mem_filter.mp (uw_1 w hw)).1) (hts (.instantiable "PlainLearnerModel" 37) (List.mem_append_right _ (List.mem_append_right _ (List.mem_append_right _ (List.mem_append_right _ (List.mem_append_left _ (List.mem_of_getElem? (i := 74) (by decide +kernel))))))))
  obtain ⟨c2, iS2, hKn2⟩ := u_known (C := "PlainLearner$Node") (T := FF_2) (N := 13) (n := 13) hts (fun w hw => (List.mem_filter.mp (uw_2 w hw)).1) (hts (.instantiable "PlainLearner$Node" 13) (List.mem_append_right _ (List.mem_append_left _ (List.mem_of_getElem? (i := 212) (by decide +kernel)))))
  obtain ⟨c3, iS3, hKn3⟩ := u_known (C := "PlainLearner$Players") (T := FF_3) (N := 2) (n := 2) hts (fun w hw => (List.mem_filter.mp (uw_3 w hw)).1) (hts (.instantiable "PlainLearner$Players" 2) (List.mem_append_right _ (List.mem_append_left _ (List.mem_of_getElem? (i := 85) (by decide +kernel)))))
  obtain ⟨c4, iS4, hKn4⟩ := u_known (C := "PlainLearner$Scores") (T := FF_4) (N := 3) (n := 3) hts (fun w hw => (List.mem_filter.mp (uw_4 w hw)).1) (hts (.instantiable "PlainLearner$Scores" 3) (List.mem_append_right _ (List.mem_append_left _ (List.mem_of_getElem? (i := 99) (by decide +kernel)))))
  obtain ⟨c5, iS5, hKn5⟩ := u_known (C := "PlainLearner$Shape") (T := FF_5) (N := 5) (n := 5) hts (fun w hw => (List.mem_filter.mp (uw_5 w hw)).1) (hts (.instantiable "PlainLearner$Shape" 5) (List.mem_append_right _ (List.mem_append_left _ (List.mem_of_getElem? (i := 173) (by decide +kernel)))))
  obtain ⟨c6, iS6, hKn6⟩ := u_known (C := "PlainLearner$Table") (T := FF_6) (N := 5) (n := 5) hts (fun w hw => (List.mem_filter.mp (uw_6 w hw)).1) (hts (.instantiable "PlainLearner$Table" 5) (List.mem_append_right _ (List.mem_append_left _ (List.mem_of_getElem? (i := 61) (by decide +kernel)))))
  obtain ⟨c7, iS7, hKn7⟩ := u_known (C := "PlainLearner$Tape") (T := FF_7) (N := 4) (n := 4) hts (fun w hw => (List.mem_filter.mp (uw_7 w hw)).1) (hts (.instantiable "PlainLearner$Tape" 4) (List.mem_append_right _ (List.mem_append_left _ (List.mem_of_getElem? (i := 26) (by decide +kernel)))))
  obtain ⟨c8, iS8, hKn8⟩ := u_known (C := "PlainLearner$Tokens") (T := FF_8) (N := 7) (n := 7) hts (fun w hw => (List.mem_filter.mp (uw_8 w hw)).1) (hts (.instantiable "PlainLearner$Tokens" 7) (List.mem_append_right _ (List.mem_append_left _ (List.mem_of_getElem? (i := 117) (by decide +kernel)))))
  obtain ⟨c9, iS9, hKn9⟩ := u_known (C := "PlainLearner$View") (T := FF_9) (N := 5) (n := 5) hts (fun w hw => (List.mem_filter.mp (uw_9 w hw)).1) (hts (.instantiable "PlainLearner$View" 5) (List.mem_append_right _ (List.mem_append_right _ (List.mem_append_left _ (List.mem_of_getElem? (i := 110) (by decide +kernel))))))
  obtain ⟨dC, dI, hKc⟩ : ∃ (dC : Nat → ClassId) (dI : Nat → Nat → Nat), ∀ (k : Nat) (q : vw_C), clG[k]? = some q → u_Kn s q.1 q.2.1 q.2.2 (dC k) (dI k) := by
    refine ⟨fun k => if k = 0 then c0 else if k = 1 then c1 else if k = 2 then c2 else if k = 3 then c3 else if k = 4 then c4 else if k = 5 then c5 else if k = 6 then c6 else if k = 7 then c7 else if k = 8 then c8 else c9, fun k => if k = 0 then iS0 else if k = 1 then iS1 else if k = 2 then iS2 else if k = 3 then iS3 else if k = 4 then iS4 else if k = 5 then iS5 else if k = 6 then iS6 else if k = 7 then iS7 else if k = 8 then iS8 else iS9, ?_⟩
    intro k q hq
    match k, hq with
    | 0, hq => cases hq; exact hKn0
    | 1, hq => cases hq; exact hKn1
    | 2, hq => cases hq; exact hKn2
    | 3, hq => cases hq; exact hKn3
    | 4, hq => cases hq; exact hKn4
    | 5, hq => cases hq; exact hKn5
    | 6, hq => cases hq; exact hKn6
    | 7, hq => cases hq; exact hKn7
    | 8, hq => cases hq; exact hKn8
    | 9, hq => cases hq; exact hKn9
    | k + 10, hq => simp [clG] at hq
  obtain ⟨eI, kI, oI, fI1, fI2, fI3⟩ := Cond.arrayClass_spec (hts (.arrayClass .int) (List.mem_append_right _ (List.mem_append_left _ (List.mem_of_getElem? (i := 83) (by decide +kernel)))))
  obtain ⟨eL, kL, oL, fL1, fL2, fL3⟩ := Cond.arrayClass_spec (hts (.arrayClass .long) (List.mem_append_right _ (List.mem_append_right _ (List.mem_append_left _ (List.mem_of_getElem? (i := 27) (by decide +kernel))))))
  obtain ⟨eZ, kZ, oZ, fZ1, fZ2, fZ3⟩ := Cond.arrayClass_spec (hts (.arrayClass .boolean) (List.mem_append_right _ (List.mem_append_left _ (List.mem_of_getElem? (i := 115) (by decide +kernel)))))
  have hao := hts (.arrayOver (.object "PlainLearner$Node")) (List.mem_append_right _ (List.mem_append_left _ (List.mem_of_getElem? (i := 32) (by decide +kernel))))
  obtain ⟨oN, eN, kN, fN1, fN2, fN3, fN4, fN5⟩ := Cond.arrayOver_spec hao
  have hA : ∀ a : Nat, a < s.heap.size → ¬ (fun q : Nat => s.heap.size ≤ q) a := fun a h => Nat.not_le.mpr h
  have hs := flat_of_before _ hgv
  obtain ⟨tF, htF, hTF⟩ := va_Tof (s := s) (args := #[Value.ref b]) (tm := .static "PlainLearner$Players" "FACTORIALS" "[I") (ty := .int) (N := 9) (f := fun j => .int (sf_0 j)) (A := fun q : Nat => s.heap.size ≤ q) (by decide) (hs (.arrayOf (.static "PlainLearner$Players" "FACTORIALS" "[I") .int) (by decide +kernel)) (va_eqt (hs (.eq (.length (.static "PlainLearner$Players" "FACTORIALS" "[I")) (.int 9)) (by decide +kernel))) (fun j hj => by
    match j, hj with
    | 0, _ => exact va_eqt (hs (.eq (.elem (.static "PlainLearner$Players" "FACTORIALS" "[I") (.int 0)) (.int 1)) (by decide +kernel))
    | 1, _ => exact va_eqt (hs (.eq (.elem (.static "PlainLearner$Players" "FACTORIALS" "[I") (.int 1)) (.int 1)) (by decide +kernel))
    | 2, _ => exact va_eqt (hs (.eq (.elem (.static "PlainLearner$Players" "FACTORIALS" "[I") (.int 2)) (.int 2)) (by decide +kernel))
    | 3, _ => exact va_eqt (hs (.eq (.elem (.static "PlainLearner$Players" "FACTORIALS" "[I") (.int 3)) (.int 6)) (by decide +kernel))
    | 4, _ => exact va_eqt (hs (.eq (.elem (.static "PlainLearner$Players" "FACTORIALS" "[I") (.int 4)) (.int 24)) (by decide +kernel))
    | 5, _ => exact va_eqt (hs (.eq (.elem (.static "PlainLearner$Players" "FACTORIALS" "[I") (.int 5)) (.int 120)) (by decide +kernel))
    | 6, _ => exact va_eqt (hs (.eq (.elem (.static "PlainLearner$Players" "FACTORIALS" "[I") (.int 6)) (.int 720)) (by decide +kernel))
    | 7, _ => exact va_eqt (hs (.eq (.elem (.static "PlainLearner$Players" "FACTORIALS" "[I") (.int 7)) (.int 5040)) (by decide +kernel))
    | 8, _ => exact va_eqt (hs (.eq (.elem (.static "PlainLearner$Players" "FACTORIALS" "[I") (.int 8)) (.int 40320)) (by decide +kernel))
    | j + 9, h => exact absurd h (by omega)) hA
  have hZF := va_Zof (d := "[I") (A := fun q : Nat => s.heap.size ≤ q) (hts (.laysStatic "PlainLearner$Players" "FACTORIALS" "[I") (List.mem_append_right _ (List.mem_append_right _ (List.mem_append_right _ (List.mem_append_left _ (List.mem_of_getElem? (i := 167) (by decide +kernel))))))) (hts (.initialized "PlainLearner$Players") (List.mem_append_right _ (List.mem_append_left _ (List.mem_of_getElem? (i := 5) (by decide +kernel))))) htF hA
  refine ⟨(dC, dI), fun t => if t = 0 then eI else if t = 1 then eL else if t = 2 then eZ else eN, fun j => if j = 0 then tF else b, rfl, ⟨⟨hKc, fun k q h => by simp at h⟩, fun t ty ht => ?_⟩, fun q hq => ?_, fun q hq => ?_, Nat.le_refl _, ws_good⟩
  · match t, ht with
    | 0, ht => cases ht; exact ⟨fun n z => ⟨fun k h => (by cases h), kI, fI2, oI, fI3⟩, fI1, fun C h => by cases h⟩
    | 1, ht => cases ht; exact ⟨fun n z => ⟨fun k h => (by cases h), kL, fL2, oL, fL3⟩, fL1, fun C h => by cases h⟩
    | 2, ht => cases ht; exact ⟨fun n z => ⟨fun k h => (by cases h), kZ, fZ2, oZ, fZ3⟩, fZ1, fun C h => by cases h⟩
    | 3, ht => cases ht; exact ⟨fun n z => ⟨fun k h => (by cases h), kN, fN3, oN, fN4⟩, ⟨kN, oN, fN3, fN4, fN1, fN5⟩, fun C h => by cases h; exact va_AO.of hao⟩
    | t + 4, ht => simp [xg, mx_ty, tyG] at ht
  · have hq : q ∈ nmG := hq
    simp only [nmG, List.mem_cons, List.mem_nil_iff, or_false] at hq
    rcases hq with rfl | rfl | rfl | rfl | rfl
    · exact va_Nw.of (by rfl) (hts _ (List.mem_append_right _ (List.mem_append_left _ (List.mem_of_getElem? (i := 27) (by decide +kernel)))))
    · exact va_Nw.of (by rfl) (hts _ (List.mem_append_right _ (List.mem_append_left _ (List.mem_of_getElem? (i := 62) (by decide +kernel)))))
    · exact va_Nw.of (by rfl) (hts _ (List.mem_append_right _ (List.mem_append_left _ (List.mem_of_getElem? (i := 86) (by decide +kernel)))))
    · exact va_Nw.of (by rfl) (hts _ (List.mem_append_right _ (List.mem_append_left _ (List.mem_of_getElem? (i := 100) (by decide +kernel)))))
    · exact va_Nw.of (by rfl) (hts _ (List.mem_append_right _ (List.mem_append_left _ (List.mem_of_getElem? (i := 118) (by decide +kernel)))))
  · have hq : q ∈ saG _ := hq
    simp only [saG, List.mem_cons, List.mem_nil_iff, or_false] at hq
    rcases hq with rfl | rfl
    · exact ⟨Or.inr hZF, hTF⟩
    · obtain ⟨scr, x1, x2, x3, x4, x5⟩ := hX
      exact ⟨Or.inl rfl, scr, x1, x2, x3, by show L ≤ _; omega, by rw [x4], x5, hA b hbl⟩
set_option maxHeartbeats 4000000 in
set_option maxRecDepth 100000 in
/-- THE LAW, from its entry: the claim out of what is pure -/
theorem whole_start {p : Program} {e : Env} {s : State} {m : MethodId} {below : List Frame} {meth : Method} {c : Code} (l : Launch) {b L : Nat} {xs : Nat → Int32} (hL : L ≤ 3072) (C0 : lw_At p s m meth c b L xs) : W p l e room_1 s m #[Value.ref b] below meth c s.heap [] 0 0 (lw_Z below #[Value.ref b] s) (entryFrame m ([Value.ref b] : List Value).toArray 4) := by
  obtain ⟨hx, hb, hr, hml, hown, hts, hX, hbl, hlocks, hgv⟩ := id C0
  obtain ⟨D, E, ad, had, hS0⟩ := lw_world l hts hX hbl hgv
  obtain ⟨N, M1, hJ, hb1, hb2⟩ := law_pure (ad, L, xs) s.heap.size hL
  have hG := tb_LW_law_0 l D E s.heap.size (ad, L, xs) (s.heap.size, 0, fun _ => none) M1 (s.heap.size + 600000) (0 + 7302250) (lw_QQ s.heap.size b) ⟨hb1, by omega⟩ (lw_hend l D E s.heap.size (ad, L, xs) b (s.heap.size, 0, fun _ => none)) N (s.heap.size, 0, fun _ => none) hJ
  have hl := lv_entry ([.ref b]) (n := 4) (Nat.le_of_ble_eq_true rfl)
  rw [lg_entry_eq]
  generalize (lg_sl ([.ref b]) ++ List.replicate (4 - (lg_sl ([.ref b])).length) Slot.unset).toArray = ls at hl ⊢
  have hl : lv_has ls 4 [(0, .ref b)] := hl
  have hR : mv_R kd_LW_law (s.heap.size, 0, fun _ => none) (s.heap.size + 600000) (0 + 7302250) = room_1 := by
    unfold mv_R room_1
    simp [mk_fr, mk_lo]
  have hW := hG.2 p e s m #[Value.ref b] below meth c s.heap [] ls ⟨⟨hx, hb, hml, hown, fun w hw => hts w (List.mem_filter.mp hw).1⟩, hS0, hr, hlocks, fun h => absurd h (by decide)⟩ ⟨rfl, fun a x h => by cases h⟩ va_S.rf (Nat.le_refl _) (Nat.le_refl _) (by show lv_has ls 4 [(0, va_rf (some (ad 1)))]; rw [had]; exact hl)
  rw [hR, Nat.sub_self, Nat.sub_self] at hW
  intro T hT XX
  obtain ⟨t, a1, b1⟩ := hW T hT XX
  exact ⟨t, a1, b1 ⟨rfl, rfl⟩⟩
-- ===== YOUR PART ENDS =====
set_option maxHeartbeats 4000000 in
theorem lw_walk (l : Launch) (b : Addr) (xs : List Int32) : MetFree l x (headSpec (Jvm.Cond.code x code maxLocals ret :: tables_1) room_1) (lw_P b xs) (fun _ _ _ _ _ => True) lw_Q := by
  refine MetFree.of_bodyS (code := code) (maxLocals := maxLocals) (ret := ret) (by decide) ?_ ?_
  · intro args s m h hn
    obtain ⟨meth, c, h1, h2, h3, h4, h5, h6, -, -⟩ := Cond.code_spec hn (atoms_spec (ws := Jvm.Cond.code x code maxLocals ret :: tables_1) h _ List.mem_cons_self)
    exact ⟨meth, c, h1, h2, h3, h4, h5, h6⟩
  · intro p e s m args below meth c s₁ B hml0 hP _
    obtain ⟨rfl, hx, hbd, hgv⟩ := hP
    obtain ⟨scr, harrAt, hlist, hof, hsmall⟩ := hx
    obtain ⟨hcb, hkn, -, -⟩ := State.arrayAt?_spec harrAt
    have hown : s.vm.findClass R_law = some m.cls := findClass_of_methodNamed B.named
    have hts0 : ∀ c ∈ (Jvm.Cond.code x code maxLocals ret :: tables_1), c.before #[Value.ref b] s = true := atoms_spec (ws := Jvm.Cond.code x code maxLocals ret :: tables_1) B.pre
    have hts : ∀ w ∈ lw_tbl, w.before #[Value.ref b] s = true := k2_hts_sels lw_privs (fun w hw => hts0 w (List.mem_cons_of_mem _ hw)) lw_privs_ok
    have hml : c.maxLocals = 4 := B.maxLocals_eq (hts0 _ List.mem_cons_self)
    have X₀ : Stand p l e room_1 s m #[Value.ref b] below meth c s₁ [] 0 0 := Stand.of_body B
    have hh0 : s₁.heap = s.heap := by rw [B.state]; rfl
    have hsz : scr.slots.size = xs.length := by rw [← Array.length_toList, hlist, List.length_map]
    have hval : ∀ j : Nat, j < xs.length → scr.slots[j]? = some (.int (xs.getD j 0)) := fun j hj => by
      rw [← Array.getElem?_toList, hlist]
      simp [hj]
    have hbl : b < s.heap.size := (Array.getElem?_eq_some_iff.mp hcb).1
    have hX : va_X b xs.length (fun j => xs.getD j 0) s s.heap := ⟨scr, hcb, hof, hkn, hsz, hval⟩
    have K : W p l e room_1 s m #[Value.ref b] below meth c s₁.heap [] 0 0 (lw_Z below #[Value.ref b] s) (entryFrame m ([Value.ref b] : List Value).toArray 4) := by
      rw [hh0]
      exact whole_start l hbd ⟨B.exec, B.bytes, B.returns, hml, hown, hts, hX, hbl, B.notSynchronized, hgv⟩
    obtain ⟨t, a1, o, b1, b2, b3⟩ := K s₁ rfl X₀
    exact ⟨t, o, a1, b1, b2, b3⟩
theorem lw_pre_spec {args : Array Value} {s : State} (h : (Jvm.Cond.and given_1 narrow_1).before args s = true) (hr : rest_1_c.before args s = true) : ∃ (b : Addr) (xs : List Int32), lw_P b xs args s := by
  have hs := flat_of_before _ h
  have hq := flat_of_before _ hr
  have hc : (Cond.count 1).before args s = true := hs _ (by decide +kernel)
  have harr : (Cond.arrayOf (.arg 0) .int).before args s = true := hs _ (by decide +kernel)
  have hle : (Cond.le (.length (.arg 0)) (.int 3072)).before args s = true := hs _ (by decide +kernel)
  have hlen : (Cond.isInt (.length (.arg 0))).before args s = true := hq _ (by decide +kernel)
  have hall : (Cond.all (.arg 0) (.isInt (.elem (.arg 0) (.index 0)))).before args s = true := hq _ (by decide +kernel)
  obtain ⟨b, xs, hb, hx⟩ := State.ints_of_pre rfl harr hlen hall
  have hsm : xs.length < 2 ^ 31 := hx.choose_spec.2.2.2
  have hev : (Term.length (.arg 0)).eval args s none [] s = some (.int xs.length.toInt32) := hx.length_eval hb
  have hv := Cond.le_ints hev (show (Term.int 3072).eval args s none [] s = some (.int 3072) from rfl)
  have hd : xs.length.toInt32 ≤ 3072 := by
    simpa [Cond.before, Cond.holds, hv] using hle
  have hN : xs.length ≤ 3072 := (Int32.ofNat_le_ofNat hsm (by decide)).mp (show Int32.ofNat xs.length ≤ Int32.ofNat 3072 from hd)
  exact ⟨b, xs, Cond.one_arg hc (show args[0]? = some (.ref b) from hb), hx, hN, h⟩
theorem lw_comes (l : Launch) : Comes l x (Jvm.Cond.code x code maxLocals ret :: tables_1) room_1 (fun tb e args s => Calls_1 tb e args s ∧ rest_1 tb e args s ∧ Pre_1 tb e args s)
    (fun _ _ args s o t => lw_Q args s o t) := by
  intro p e ha hc hk s m args below hf hfit hheap happ hpre
  obtain ⟨b, xs, hP⟩ := lw_pre_spec hpre.2.2 hpre.2.1
  obtain ⟨k, o, h1, h2, h3, hQ⟩ := lw_walk l b xs p e ha hc hk s m args below hf ((Spec.applies_iff_loose hf).mp happ).1 hP trivial
  exact ⟨k, o, h1, h2, h3, hQ⟩
theorem lw_frame {s t : State} {o : Outcome} {args : Array Value} (h : Framed s o t [] 600000 7302250) :
    Framed s o t (fieldLocs frame_1_writes args s ++ arrayLocs frame_1_arrays args s ++ staticLocs frame_1_statics s) 600000 7302250 := h
theorem lw_limb (L : Cond) (hL : ∀ (args : Array Value) (s t : State), L.after args s (.returned (some (.int 1))) t = true) :
    ArmFor flags0 classFile x code maxLocals ret World_1 tables_1 room_1 Calls_1 rest_1 Pre_1
      (fun tb e a s o t => postC L tb e a s o t ∧ Framed s o t (fieldLocs frame_1_writes a s ++ arrayLocs frame_1_arrays a s ++ staticLocs frame_1_statics s) 600000 7302250) := by
  intro l _ _ _ p e ha hc hk s m args below hf hfit hheap happ hpre
  obtain ⟨k, o, h1, h2, h3, rfl, hF⟩ := lw_comes l p e ha hc hk s m args below hf hfit hheap happ hpre
  exact ⟨k, _, h1, h2, h3, hL args s _, lw_frame hF⟩
theorem i_vc : Claimed_1_1 ∧ Claimed_1_2 := ⟨lw_limb limb_1_1 (fun args s t => by simp [limb_1_1, Cond.after, Cond.holds, Cond.value]), lw_limb limb_1_2 (fun args s t => Cond.after_iff.mpr (by
  first | (rw [show limb_1_2 = Cond.eq .result (.int 1) from rfl, Cond.eq_ints (x := 1) (y := 1) rfl rfl]; simp; done) | (simp [limb_1_2, Cond.value, Term.eval]; done)))⟩
