/-! ALL OF IT, 1: the memory of the law: the object, its parts, the reference -/
def gW (o K : Nat) (c : Nat → Option va_E) (M : mv_M) : Prop := ∀ j, j ≤ K → M.2.2 (o + j) = c j
theorem gW_at (o K : Nat) (c : Nat → Option va_E) (M : mv_M) : gW o K c (kw_over o K c M) := fun j hj => by
  show (if o ≤ o + j ∧ o + j ≤ o + K then c (o + j - o) else M.2.2 (o + j)) = c j
  rw [if_pos ⟨by omega, by omega⟩, show o + j - o = j by omega]
theorem gW_out {o K o' K' : Nat} {c c' : Nat → Option va_E} {M : mv_M} (hd : o' + K' < o ∨ o + K < o') (h : gW o' K' c' M) : gW o' K' c' (kw_over o K c M) := fun j hj => by
  rw [kw_out (by omega)]
  exact h j hj
def gP (B : Nat) (M : mv_M) : Prop := M.2.2 B = some (.inr (0, [.ref (B + 1), .ref (B + 3), .ref (B + 8), .ref (B + 10), .ref (B + 13)]))
def gT (B : Nat) (Λ : tQ) (ρ : tR) (τ : tS) (M : mv_M) : Prop := Λ.1 = B + 1 ∧ t_ok Λ ρ M ∧ (∀ a, (wT Λ ρ M τ).2.2 a = M.2.2 a) ∧ (∀ a q, Λ.2 a = some q → B + 40 ≤ a ∧ a < M.1) ∧ (∀ i, i < t_n ρ → B + 40 ≤ t_A ρ i 3 ∧ t_A ρ i 3 < M.1) ∧ (∀ i, i < t_n ρ → ∀ f v, t_W ρ i f = some v → B + 40 ≤ t_A ρ i f ∧ t_A ρ i f < M.1)
theorem gT_w {B : Nat} {Λ : tQ} {ρ : tR} {τ : tS} {M : mv_M} (h : gT B Λ ρ τ M) : wT Λ ρ M τ = M := by
  have e : (wT Λ ρ M τ).2.2 = M.2.2 := funext h.2.2.1
  show (M.1, M.2.1, (wT Λ ρ M τ).2.2) = M
  rw [e]
theorem gT_mono {B : Nat} {Λ : tQ} {ρ : tR} {τ : tS} {M M' : mv_M} (h : gT B Λ ρ τ M) (h1 : M.1 ≤ M'.1) (hs : ∀ a, (a = B + 1 ∨ a = B + 2 ∨ (B + 40 ≤ a ∧ a < M.1)) → M'.2.2 a = M.2.2 a) : gT B Λ ρ τ M' := by
  obtain ⟨e1, ⟨k1, k2, k3, k4, k5, k6⟩, e3, e4, e5, e6⟩ := h
  refine ⟨e1, ⟨k1, k2, ⟨k3.1, ?_⟩, fun i hi => ⟨(k4 i hi).1, (k4 i hi).2.1, ?_⟩, fun i hi f v hv => ⟨(k5 i hi f v hv).1, (k5 i hi f v hv).2.1, ?_⟩, k6⟩, fun a => ?_, fun a q hq => ⟨(e4 a q hq).1, by have := (e4 a q hq).2; omega⟩, fun i hi => ⟨(e5 i hi).1, by have := (e5 i hi).2; omega⟩, fun i hi f v hv => ⟨(e6 i hi f v hv).1, by have := (e6 i hi f v hv).2; omega⟩⟩
  · rw [hs _ (by omega)]
    exact k3.2
  · rw [hs _ (Or.inr (Or.inr (e5 i hi)))]
    exact (k4 i hi).2.2
  · rw [hs _ (Or.inr (Or.inr (e6 i hi f v hv)))]
    exact (k5 i hi f v hv).2.2
  · have g := e3 a
    by_cases ha : a = Λ.1
    · subst ha
      rw [wT_tp, hs _ (Or.inl e1), ← g, wT_tp]
    · cases hq : Λ.2 a with
      | none => rw [wT_out hq ha]
      | some q =>
        have r1 : ∀ M0 : mv_M, (wT Λ ρ M0 τ).2.2 a = some (t_cell ρ τ q) := fun M0 => by
          show (if a = Λ.1 then _ else match Λ.2 a with | some q => some (t_cell ρ τ q) | none => M0.2.2 a) = _
          rw [if_neg ha, hq]
        rw [r1, hs _ (Or.inr (Or.inr (e4 a q hq))), ← g, r1]
theorem gT_over {B o K : Nat} {c : Nat → Option va_E} {Λ : tQ} {ρ : tR} {τ : tS} {M : mv_M} (h1 : B + 3 ≤ o) (h2 : o + K < B + 40) (h : gT B Λ ρ τ M) : gT B Λ ρ τ (kw_over o K c M) :=
  gT_mono h (Nat.le_refl _) (fun a ha => kw_out (by omega))
def GM (B : Nat) (ta py sc tk pm : kS) (Λ : tQ) (ρ : tR) (τ : tS) (M : mv_M) : Prop := B + 40 ≤ M.1 ∧ gP B M ∧ gW (B + 3) 4 (wc_Ta (B + 3) ta) M ∧ gW (B + 8) 1 (wc_Py (B + 8) py) M ∧ gW (B + 10) 2 (wc_Sc (B + 10) sc) M ∧ gW (B + 13) 5 (wc_Tk (B + 13) tk) M ∧ gW (B + 19) 20 (wc_PM (B + 19) pm) M ∧ gT B Λ ρ τ M
def GR (ta py sc tk pm : kS) (X : tX) (ρ : tR) (τ : tS) : Prop := R_Ta ta pm ∧ R_Py py pm ∧ R_Sc sc pm ∧ R_Tk tk pm ∧ R_Tp X ρ τ pm
def G1 (B : Nat) (M : mv_M) : Prop := ∃ (ta py sc tk pm : kS) (X : tX) (Λ : tQ) (ρ : tR) (τ : tS), GM B ta py sc tk pm Λ ρ τ M ∧ GR ta py sc tk pm X ρ τ
/-- a call on both: the same answer, all kept, and a little room taken -/
def RC {α : Type} (B : Nat) (M : mv_M) (f g : mv_M → Option (α × mv_M)) : Prop := ∃ r M1 M2, f M = some (r, M1) ∧ mj_is M1 (B + 19) 1 = true ∧ g M1 = some (r, M2) ∧ G1 B M2 ∧ M2.1 ≤ M.1 + 6 ∧ M2.2.1 ≤ M.2.1 + 160
section GG
variable {B : Nat} {ta py sc tk pm : kS} {Λ : tQ} {ρ : tR} {τ : tS} {M : mv_M}
theorem gm_is (h : GM B ta py sc tk pm Λ ρ τ M) : mj_is M B 0 = true := by
  unfold mj_is
  rw [h.2.1]
  rfl
theorem gw_is {pm : kS} {M : mv_M} {o : Nat} (h : gW o 20 (wc_PM o pm) M) : mj_is M o 1 = true := by
  have e : M.2.2 o = some (.inr (1, wF_PM o pm)) := h 0 (by omega)
  unfold mj_is
  rw [e]
  rfl
theorem gm_f (h : GM B ta py sc tk pm Λ ρ τ M) : mj_getR M B 0 0 = some (some (B + 1)) ∧ mj_getR M B 0 1 = some (some (B + 3)) ∧ mj_getR M B 0 2 = some (some (B + 8)) ∧ mj_getR M B 0 3 = some (some (B + 10)) ∧ mj_getR M B 0 4 = some (some (B + 13)) :=
  ⟨mj_getR_of (x := some (B + 1)) h.2.1 rfl, mj_getR_of (x := some (B + 3)) h.2.1 rfl, mj_getR_of (x := some (B + 8)) h.2.1 rfl, mj_getR_of (x := some (B + 10)) h.2.1 rfl, mj_getR_of (x := some (B + 13)) h.2.1 rfl⟩
theorem gm_Ta (h : GM B ta py sc tk pm Λ ρ τ M) : wr_Ta (B + 3) M ta = M := kw_self h.2.2.1
theorem gm_Py (h : GM B ta py sc tk pm Λ ρ τ M) : wr_Py (B + 8) M py = M := kw_self h.2.2.2.1
theorem gm_Sc (h : GM B ta py sc tk pm Λ ρ τ M) : wr_Sc (B + 10) M sc = M := kw_self h.2.2.2.2.1
theorem gm_Tk (h : GM B ta py sc tk pm Λ ρ τ M) : wr_Tk (B + 13) M tk = M := kw_self h.2.2.2.2.2.1
theorem gm_PM (h : GM B ta py sc tk pm Λ ρ τ M) : wr_PM (B + 19) M pm = M := kw_self h.2.2.2.2.2.2.1
theorem gP_over {o K : Nat} {c : Nat → Option va_E} (h1 : B < o) (h : gP B M) : gP B (kw_over o K c M) := by
  show (kw_over o K c M).2.2 B = _
  rw [kw_out (by omega)]
  exact h
theorem gs_Ta (h : GM B ta py sc tk pm Λ ρ τ M) (ta' : kS) : GM B ta' py sc tk pm Λ ρ τ (wr_Ta (B + 3) M ta') := by
  obtain ⟨h1, h2, h3, h4, h5, h6, h7, h8⟩ := h
  exact ⟨h1, gP_over (by omega) h2, gW_at _ _ _ _, gW_out (by omega) h4, gW_out (by omega) h5, gW_out (by omega) h6, gW_out (by omega) h7, gT_over (by omega) (by omega) h8⟩
theorem gs_Py (h : GM B ta py sc tk pm Λ ρ τ M) (py' : kS) : GM B ta py' sc tk pm Λ ρ τ (wr_Py (B + 8) M py') := by
  obtain ⟨h1, h2, h3, h4, h5, h6, h7, h8⟩ := h
  exact ⟨h1, gP_over (by omega) h2, gW_out (by omega) h3, gW_at _ _ _ _, gW_out (by omega) h5, gW_out (by omega) h6, gW_out (by omega) h7, gT_over (by omega) (by omega) h8⟩
theorem gs_Sc (h : GM B ta py sc tk pm Λ ρ τ M) (sc' : kS) : GM B ta py sc' tk pm Λ ρ τ (wr_Sc (B + 10) M sc') := by
  obtain ⟨h1, h2, h3, h4, h5, h6, h7, h8⟩ := h
  exact ⟨h1, gP_over (by omega) h2, gW_out (by omega) h3, gW_out (by omega) h4, gW_at _ _ _ _, gW_out (by omega) h6, gW_out (by omega) h7, gT_over (by omega) (by omega) h8⟩
theorem gs_Tk (h : GM B ta py sc tk pm Λ ρ τ M) (tk' : kS) : GM B ta py sc tk' pm Λ ρ τ (wr_Tk (B + 13) M tk') := by
  obtain ⟨h1, h2, h3, h4, h5, h6, h7, h8⟩ := h
  exact ⟨h1, gP_over (by omega) h2, gW_out (by omega) h3, gW_out (by omega) h4, gW_out (by omega) h5, gW_at _ _ _ _, gW_out (by omega) h7, gT_over (by omega) (by omega) h8⟩
theorem gs_PM (h : GM B ta py sc tk pm Λ ρ τ M) (pm' : kS) : GM B ta py sc tk pm' Λ ρ τ (wr_PM (B + 19) M pm') := by
  obtain ⟨h1, h2, h3, h4, h5, h6, h7, h8⟩ := h
  exact ⟨h1, gP_over (by omega) h2, gW_out (by omega) h3, gW_out (by omega) h4, gW_out (by omega) h5, gW_out (by omega) h6, gW_at _ _ _ _, gT_over (by omega) (by omega) h8⟩
/-- a call of the tape that makes no object -/
theorem gs_T (h : GM B ta py sc tk pm Λ ρ τ M) (τ' : tS) : GM B ta py sc tk pm Λ ρ τ' (wT Λ ρ M τ') := by
  obtain ⟨h1, h2, h3, h4, h5, h6, h7, h8⟩ := h
  obtain ⟨e1, ⟨k1, k2, k3, k4, k5, k6⟩, e3, e4, e5, e6⟩ := h8
  have no : ∀ a, a < B + 40 → a ≠ B + 1 → (wT Λ ρ M τ').2.2 a = M.2.2 a := fun a ha hb => by
    cases hq : Λ.2 a with
    | none => exact wT_out hq (by omega)
    | some q => have := (e4 a q hq).1; omega
  have wo : ∀ o K c, B + 3 ≤ o → o + K < B + 40 → gW o K c M → gW o K c (wT Λ ρ M τ') := fun o K c ho hk hw j hj => by
    rw [no _ (by omega) (by omega)]
    exact hw j hj
  refine ⟨h1, ?_, wo _ _ _ (by omega) (by omega) h3, wo _ _ _ (by omega) (by omega) h4, wo _ _ _ (by omega) (by omega) h5, wo _ _ _ (by omega) (by omega) h6, wo _ _ _ (by omega) (by omega) h7, e1, ⟨k1, k2, ⟨k3.1, ?_⟩, fun i hi => ⟨(k4 i hi).1, (k4 i hi).2.1, ?_⟩, fun i hi f v hv => ⟨(k5 i hi f v hv).1, (k5 i hi f v hv).2.1, ?_⟩, k6⟩, fun a => ?_, e4, e5, e6⟩
  · show (wT Λ ρ M τ').2.2 B = _
    rw [no _ (by omega) (by omega)]
    exact h2
  · rw [no _ (by omega) (by omega)]
    exact k3.2
  · rw [wT_out (k4 i hi).1 (k4 i hi).2.1]
    exact (k4 i hi).2.2
  · rw [wT_out (k5 i hi f v hv).1 (k5 i hi f v hv).2.1]
    exact (k5 i hi f v hv).2.2
  · show (if a = Λ.1 then _ else match Λ.2 a with | some q => some (t_cell ρ τ' q) | none => (wT Λ ρ M τ').2.2 a) = (wT Λ ρ M τ').2.2 a
    by_cases ha : a = Λ.1
    · subst ha
      rw [if_pos rfl, wT_tp]
    · rw [if_neg ha]
      cases hq : Λ.2 a with
      | none => rfl
      | some q =>
        show _ = (if a = Λ.1 then _ else match Λ.2 a with | some q => some (t_cell ρ τ' q) | none => M.2.2 a)
        rw [if_neg ha, hq]
end GG
/-! the frames of the reference: what one part changes, the others keep -/
theorem fr_Ta {ta py sc tk pm ta' pm' : kS} {X : tX} {ρ : tR} {τ : tS} (g : GR ta py sc tk pm X ρ τ) (h : R_Ta ta' pm') (f : fTa pm pm') : GR ta' py sc tk pm' X ρ τ :=
  ⟨h, R_Py_fr f (by decide) (by decide) g.2.1, R_Sc_fr f (by decide) (by decide) (by decide) g.2.2.1, R_Tk_fr f (by decide) (by decide) (by decide) (by decide) (by decide) g.2.2.2.1, R_Tp_fr f (by decide) (by decide) (by decide) (by decide) (by decide) (by decide) (by decide) (by decide) (by decide) (by decide) (by decide) g.2.2.2.2⟩
theorem fr_Py {ta py sc tk pm py' pm' : kS} {X : tX} {ρ : tR} {τ : tS} (g : GR ta py sc tk pm X ρ τ) (h : R_Py py' pm') (f : fPy pm pm') : GR ta py' sc tk pm' X ρ τ :=
  ⟨R_Ta_fr f (by decide) (by decide) g.1, h, R_Sc_fr f (by decide) (by decide) (by decide) g.2.2.1, R_Tk_fr f (by decide) (by decide) (by decide) (by decide) (by decide) g.2.2.2.1, R_Tp_fr f (by decide) (by decide) (by decide) (by decide) (by decide) (by decide) (by decide) (by decide) (by decide) (by decide) (by decide) g.2.2.2.2⟩
theorem fr_Sc {ta py sc tk pm sc' pm' : kS} {X : tX} {ρ : tR} {τ : tS} (g : GR ta py sc tk pm X ρ τ) (h : R_Sc sc' pm') (f : fSc pm pm') : GR ta py sc' tk pm' X ρ τ :=
  ⟨R_Ta_fr f (by decide) (by decide) g.1, R_Py_fr f (by decide) (by decide) g.2.1, h, R_Tk_fr f (by decide) (by decide) (by decide) (by decide) (by decide) g.2.2.2.1, R_Tp_fr f (by decide) (by decide) (by decide) (by decide) (by decide) (by decide) (by decide) (by decide) (by decide) (by decide) (by decide) g.2.2.2.2⟩
theorem fr_Tk {ta py sc tk pm tk' pm' : kS} {X : tX} {ρ : tR} {τ : tS} (g : GR ta py sc tk pm X ρ τ) (h : R_Tk tk' pm') (f : fTk pm pm') : GR ta py sc tk' pm' X ρ τ :=
  ⟨R_Ta_fr f (by decide) (by decide) g.1, R_Py_fr f (by decide) (by decide) g.2.1, R_Sc_fr f (by decide) (by decide) (by decide) g.2.2.1, h, R_Tp_fr f (by decide) (by decide) (by decide) (by decide) (by decide) (by decide) (by decide) (by decide) (by decide) (by decide) (by decide) g.2.2.2.2⟩
theorem fr_Tp {ta py sc tk pm pm' : kS} {X Y : tX} {ρ ρ' : tR} {τ τ' : tS} (g : GR ta py sc tk pm X ρ τ) (h : R_Tp Y ρ' τ' pm') (f : fTp pm pm') : GR ta py sc tk pm' Y ρ' τ' :=
  ⟨R_Ta_fr f (by decide) (by decide) g.1, R_Py_fr f (by decide) (by decide) g.2.1, R_Sc_fr f (by decide) (by decide) (by decide) g.2.2.1, R_Tk_fr f (by decide) (by decide) (by decide) (by decide) (by decide) g.2.2.2.1, h⟩
theorem mj_obI {β : Type} {M : mv_M} {b ci : Nat} {A : Option β} (h : mj_is M b ci = true) : mj_ob M b ci A = A := if_pos h
theorem mj_callS {α β : Type} (r : α) (M : mv_M) (f : α → mv_M → Option β) : mj_call (some (r, M)) f = f r M := rfl
/-- the reference's call, from a memory that has its world -/
theorem rc_end {α : Type} {B : Nat} {M M1 : mv_M} {f g : mv_M → Option (α × mv_M)} {r : α} {ta py sc tk pm pm' : kS} {X : tX} {Λ : tQ} {ρ : tR} {τ : tS} (h1 : f M = some (r, M1)) (hg : GM B ta py sc tk pm Λ ρ τ M1) (h2 : g (wr_PM (B + 19) M1 pm) = some (r, wr_PM (B + 19) M1 pm')) (hr : GR ta py sc tk pm' X ρ τ) (b1 : M1.1 ≤ M.1 + 6) (b2 : M1.2.1 ≤ M.2.1 + 160) : RC B M f g := by
  rw [gm_PM hg] at h2
  exact ⟨r, M1, _, h1, gw_is hg.2.2.2.2.2.2.1, h2, ⟨ta, py, sc, tk, pm', X, Λ, ρ, τ, gs_PM hg pm', hr⟩, b1, b2⟩
