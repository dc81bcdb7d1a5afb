/-! ALL OF IT, 2: the calls on tables, games, scores, tokens -/
theorem ob_Ta {β : Type} {B : Nat} {ta py sc tk pm : kS} {Λ : tQ} {ρ : tR} {τ : tS} {M : mv_M} (h : GM B ta py sc tk pm Λ ρ τ M) (A : Option β) : mj_ob M (B + 3) 6 A = A := by
  have := wo_Ta (B + 3) M ta A
  rw [gm_Ta h] at this
  exact this
theorem ob_Py {β : Type} {B : Nat} {ta py sc tk pm : kS} {Λ : tQ} {ρ : tR} {τ : tS} {M : mv_M} (h : GM B ta py sc tk pm Λ ρ τ M) (A : Option β) : mj_ob M (B + 8) 3 A = A := by
  have := wo_Py (B + 8) M py A
  rw [gm_Py h] at this
  exact this
theorem ob_Sc {β : Type} {B : Nat} {ta py sc tk pm : kS} {Λ : tQ} {ρ : tR} {τ : tS} {M : mv_M} (h : GM B ta py sc tk pm Λ ρ τ M) (A : Option β) : mj_ob M (B + 10) 4 A = A := by
  have := wo_Sc (B + 10) M sc A
  rw [gm_Sc h] at this
  exact this
theorem ob_Tk {β : Type} {B : Nat} {ta py sc tk pm : kS} {Λ : tQ} {ρ : tR} {τ : tS} {M : mv_M} (h : GM B ta py sc tk pm Λ ρ τ M) (A : Option β) : mj_ob M (B + 13) 8 A = A := by
  have := wo_Tk (B + 13) M tk A
  rw [gm_Tk h] at this
  exact this
theorem ca_row {B N : Nat} (hN : 4000 ≤ N) {M : mv_M} (h : G1 B M) (a : Int32) (b : Int32) (c : Int32) (d : Int32) (e : Int32) : RC B M (fun M => jf_PL_row N M B a b c d e) (fun M => jf_PM_row N M (B + 19) a b c d e) := by
  obtain ⟨ta, py, sc, tk, pm, X, Λ, ρ, τ, hg, hr⟩ := h
  have _ := hN
  obtain ⟨r, ta', pm', o1, o2, o3, o4⟩ := op_row N hr.1 a b c d e
  have e1 := lf_Ta_addRow (B + 3) M N ta a b c d e
  rw [gm_Ta hg, o1] at e1
  refine rc_end (r := r) (pm' := pm') (M1 := wr_Ta (B + 3) M ta') ?_ (gs_Ta hg ta') ?_ (fr_Ta hr o3 o4) (Nat.le_add_right _ _) (Nat.le_add_right _ _)
  · show jf_PL_row N M B a b c d e = _
    unfold jf_PL_row jb_PL_row_0
    rw [(gm_f hg).2.1, Option.bind_some, Option.bind_some, ob_Ta hg, e1]
    rfl
  · show jf_PM_row N _ (B + 19) a b c d e = _
    rw [lf_PM_row, o2]
    rfl
theorem ca_best {B N : Nat} (hN : 4000 ≤ N) {M : mv_M} (h : G1 B M) : RC B M (fun M => jf_PL_best N M B ) (fun M => jf_PM_best N M (B + 19) ) := by
  obtain ⟨ta, py, sc, tk, pm, X, Λ, ρ, τ, hg, hr⟩ := h
  have _ := hN
  obtain ⟨r, ta', pm', o1, o2, o3, o4⟩ := op_best (N := N) (by omega) hr.1 
  have e1 := lf_Ta_bestColumn (B + 3) M N ta 
  rw [gm_Ta hg, o1] at e1
  refine rc_end (r := r) (pm' := pm') (M1 := wr_Ta (B + 3) M ta') ?_ (gs_Ta hg ta') ?_ (fr_Ta hr o3 o4) (Nat.le_add_right _ _) (Nat.le_add_right _ _)
  · show jf_PL_best N M B  = _
    unfold jf_PL_best jb_PL_best_0
    rw [(gm_f hg).2.1, Option.bind_some, Option.bind_some, ob_Ta hg, e1]
    rfl
  · show jf_PM_best N _ (B + 19)  = _
    rw [lf_PM_best, o2]
    rfl
theorem ca_clear {B N : Nat} (hN : 4000 ≤ N) {M : mv_M} (h : G1 B M) : RC B M (fun M => jf_PL_clear N M B ) (fun M => jf_PM_clear N M (B + 19) ) := by
  obtain ⟨ta, py, sc, tk, pm, X, Λ, ρ, τ, hg, hr⟩ := h
  have _ := hN
  obtain ⟨r, ta', pm', o1, o2, o3, o4⟩ := op_clear N hr.1 
  have e1 := lf_Ta_dropAll (B + 3) M N ta 
  rw [gm_Ta hg, o1] at e1
  refine rc_end (r := r) (pm' := pm') (M1 := wr_Ta (B + 3) M ta') ?_ (gs_Ta hg ta') ?_ (fr_Ta hr o3 o4) (Nat.le_add_right _ _) (Nat.le_add_right _ _)
  · show jf_PL_clear N M B  = _
    unfold jf_PL_clear jb_PL_clear_0
    rw [(gm_f hg).2.1, Option.bind_some, Option.bind_some, ob_Ta hg, e1]
    rfl
  · show jf_PM_clear N _ (B + 19)  = _
    rw [lf_PM_clear, o2]
    rfl
theorem ca_game {B N : Nat} (hN : 4000 ≤ N) {M : mv_M} (h : G1 B M) (a : Int32) : RC B M (fun M => jf_PL_game N M B a) (fun M => jf_PM_game N M (B + 19) a) := by
  obtain ⟨ta, py, sc, tk, pm, X, Λ, ρ, τ, hg, hr⟩ := h
  have _ := hN
  obtain ⟨r, py', pm', o1, o2, o3, o4⟩ := op_game (N := N) (by omega) hr.2.1 a
  have e1 := lf_Py_begin (B + 8) M N py a
  rw [gm_Py hg, o1] at e1
  refine rc_end (r := r) (pm' := pm') (M1 := wr_Py (B + 8) M py') ?_ (gs_Py hg py') ?_ (fr_Py hr o3 o4) (Nat.le_add_right _ _) (Nat.le_add_right _ _)
  · show jf_PL_game N M B a = _
    unfold jf_PL_game jb_PL_game_0
    rw [(gm_f hg).2.2.1, Option.bind_some, Option.bind_some, ob_Py hg, e1]
    rfl
  · show jf_PM_game N _ (B + 19) a = _
    rw [lf_PM_game, o2]
    rfl
theorem ca_worth {B N : Nat} (hN : 4000 ≤ N) {M : mv_M} (h : G1 B M) (a : Int32) (b : Int32) : RC B M (fun M => jf_PL_worth N M B a b) (fun M => jf_PM_worth N M (B + 19) a b) := by
  obtain ⟨ta, py, sc, tk, pm, X, Λ, ρ, τ, hg, hr⟩ := h
  have _ := hN
  obtain ⟨r, py', pm', o1, o2, o3, o4⟩ := op_worth (N := N) hr.2.1 a b
  have e1 := lf_Py_setWorth (B + 8) M N py a b
  rw [gm_Py hg, o1] at e1
  refine rc_end (r := r) (pm' := pm') (M1 := wr_Py (B + 8) M py') ?_ (gs_Py hg py') ?_ (fr_Py hr o3 o4) (Nat.le_add_right _ _) (Nat.le_add_right _ _)
  · show jf_PL_worth N M B a b = _
    unfold jf_PL_worth jb_PL_worth_0
    rw [(gm_f hg).2.2.1, Option.bind_some, Option.bind_some, ob_Py hg, e1]
    rfl
  · show jf_PM_worth N _ (B + 19) a b = _
    rw [lf_PM_worth, o2]
    rfl
theorem ca_pair {B N : Nat} (hN : 4000 ≤ N) {M : mv_M} (h : G1 B M) (a : Int32) (b : Int32) : RC B M (fun M => jf_PL_pair N M B a b) (fun M => jf_PM_pair N M (B + 19) a b) := by
  obtain ⟨ta, py, sc, tk, pm, X, Λ, ρ, τ, hg, hr⟩ := h
  have _ := hN
  obtain ⟨r, sc', pm', o1, o2, o3, o4⟩ := op_pair N hr.2.2.1 a b
  have e1 := lf_Sc_addPair (B + 10) M N sc a b
  rw [gm_Sc hg, o1] at e1
  refine rc_end (r := r) (pm' := pm') (M1 := wr_Sc (B + 10) M sc') ?_ (gs_Sc hg sc') ?_ (fr_Sc hr o3 o4) (Nat.le_add_right _ _) (Nat.le_add_right _ _)
  · show jf_PL_pair N M B a b = _
    unfold jf_PL_pair jb_PL_pair_0
    rw [(gm_f hg).2.2.2.1, Option.bind_some, Option.bind_some, ob_Sc hg, e1]
    rfl
  · show jf_PM_pair N _ (B + 19) a b = _
    rw [lf_PM_pair, o2]
    rfl
theorem ca_forget {B N : Nat} (hN : 4000 ≤ N) {M : mv_M} (h : G1 B M) : RC B M (fun M => jf_PL_forget N M B ) (fun M => jf_PM_forget N M (B + 19) ) := by
  obtain ⟨ta, py, sc, tk, pm, X, Λ, ρ, τ, hg, hr⟩ := h
  have _ := hN
  obtain ⟨r, sc', pm', o1, o2, o3, o4⟩ := op_forget N hr.2.2.1 
  have e1 := lf_Sc_dropAll (B + 10) M N sc 
  rw [gm_Sc hg, o1] at e1
  refine rc_end (r := r) (pm' := pm') (M1 := wr_Sc (B + 10) M sc') ?_ (gs_Sc hg sc') ?_ (fr_Sc hr o3 o4) (Nat.le_add_right _ _) (Nat.le_add_right _ _)
  · show jf_PL_forget N M B  = _
    unfold jf_PL_forget jb_PL_forget_0
    rw [(gm_f hg).2.2.2.1, Option.bind_some, Option.bind_some, ob_Sc hg, e1]
    rfl
  · show jf_PM_forget N _ (B + 19)  = _
    rw [lf_PM_forget, o2]
    rfl
theorem ca_feed {B N : Nat} (hN : 4000 ≤ N) {M : mv_M} (h : G1 B M) (a : Int64) (b : Int32) : RC B M (fun M => jf_PL_feed N M B a b) (fun M => jf_PM_feed N M (B + 19) a b) := by
  obtain ⟨ta, py, sc, tk, pm, X, Λ, ρ, τ, hg, hr⟩ := h
  have _ := hN
  obtain ⟨r, tk', pm', o1, o2, o3, o4⟩ := op_feed (N := N) (by omega) hr.2.2.2.1 a b
  have e1 := lf_Tk_addLetters (B + 13) M N tk a b
  rw [gm_Tk hg, o1] at e1
  refine rc_end (r := r) (pm' := pm') (M1 := wr_Tk (B + 13) M tk') ?_ (gs_Tk hg tk') ?_ (fr_Tk hr o3 o4) (Nat.le_add_right _ _) (Nat.le_add_right _ _)
  · show jf_PL_feed N M B a b = _
    unfold jf_PL_feed jb_PL_feed_0
    rw [(gm_f hg).2.2.2.2, Option.bind_some, Option.bind_some, ob_Tk hg, e1]
    rfl
  · show jf_PM_feed N _ (B + 19) a b = _
    rw [lf_PM_feed, o2]
    rfl
theorem ca_empty {B N : Nat} (hN : 4000 ≤ N) {M : mv_M} (h : G1 B M) : RC B M (fun M => jf_PL_empty N M B ) (fun M => jf_PM_empty N M (B + 19) ) := by
  obtain ⟨ta, py, sc, tk, pm, X, Λ, ρ, τ, hg, hr⟩ := h
  have _ := hN
  obtain ⟨r, tk', pm', o1, o2, o3, o4⟩ := op_empty N hr.2.2.2.1 
  have e1 := lf_Tk_dropText (B + 13) M N tk 
  rw [gm_Tk hg, o1] at e1
  refine rc_end (r := r) (pm' := pm') (M1 := wr_Tk (B + 13) M tk') ?_ (gs_Tk hg tk') ?_ (fr_Tk hr o3 o4) (Nat.le_add_right _ _) (Nat.le_add_right _ _)
  · show jf_PL_empty N M B  = _
    unfold jf_PL_empty jb_PL_empty_0
    rw [(gm_f hg).2.2.2.2, Option.bind_some, Option.bind_some, ob_Tk hg, e1]
    rfl
  · show jf_PM_empty N _ (B + 19)  = _
    rw [lf_PM_empty, o2]
    rfl
theorem ca_merge {B N : Nat} (hN : 4000 ≤ N) {M : mv_M} (h : G1 B M) : RC B M (fun M => jf_PL_merge N M B ) (fun M => jf_PM_merge N M (B + 19) ) := by
  obtain ⟨ta, py, sc, tk, pm, X, Λ, ρ, τ, hg, hr⟩ := h
  have _ := hN
  obtain ⟨r, tk', pm', o1, o2, o3, o4⟩ := op_merge (N := N) (by omega) hr.2.2.2.1 
  have e1 := lf_Tk_learnMerge (B + 13) M N tk 
  rw [gm_Tk hg, o1] at e1
  refine rc_end (r := r) (pm' := pm') (M1 := wr_Tk (B + 13) M tk') ?_ (gs_Tk hg tk') ?_ (fr_Tk hr o3 o4) (Nat.le_add_right _ _) (Nat.le_add_right _ _)
  · show jf_PL_merge N M B  = _
    unfold jf_PL_merge jb_PL_merge_0
    rw [(gm_f hg).2.2.2.2, Option.bind_some, Option.bind_some, ob_Tk hg, e1]
    rfl
  · show jf_PM_merge N _ (B + 19)  = _
    rw [lf_PM_merge, o2]
    rfl
theorem ca_merged {B N : Nat} (hN : 4000 ≤ N) {M : mv_M} (h : G1 B M) (a : Int32) (b : Int32) : RC B M (fun M => jf_PL_merged N M B a b) (fun M => jf_PM_merged N M (B + 19) a b) := by
  obtain ⟨ta, py, sc, tk, pm, X, Λ, ρ, τ, hg, hr⟩ := h
  have _ := hN
  obtain ⟨r, pm', o1, o2, o3, o4⟩ := op_merged (N := N) (by omega) hr.2.2.2.1 a b
  have e1 := lf_Tk_describeMerge (B + 13) M N tk a b
  rw [gm_Tk hg, o1] at e1
  refine rc_end (r := r) (pm' := pm') (M1 := wr_Tk (B + 13) M tk) ?_ (gs_Tk hg tk) ?_ (fr_Tk hr o3 o4) (Nat.le_add_right _ _) (Nat.le_add_right _ _)
  · show jf_PL_merged N M B a b = _
    unfold jf_PL_merged jb_PL_merged_0
    rw [(gm_f hg).2.2.2.2, Option.bind_some, Option.bind_some, ob_Tk hg, e1]
    rfl
  · show jf_PM_merged N _ (B + 19) a b = _
    rw [lf_PM_merged, o2]
    rfl
theorem ca_encode {B N : Nat} (hN : 4000 ≤ N) {M : mv_M} (h : G1 B M) : RC B M (fun M => jf_PL_encode N M B ) (fun M => jf_PM_encode N M (B + 19) ) := by
  obtain ⟨ta, py, sc, tk, pm, X, Λ, ρ, τ, hg, hr⟩ := h
  have _ := hN
  obtain ⟨r, tk', pm', o1, o2, o3, o4⟩ := op_encode (N := N) (by omega) hr.2.2.2.1 
  have e1 := lf_Tk_doAllMerges (B + 13) M N tk 
  rw [gm_Tk hg, o1] at e1
  refine rc_end (r := r) (pm' := pm') (M1 := wr_Tk (B + 13) M tk') ?_ (gs_Tk hg tk') ?_ (fr_Tk hr o3 o4) (Nat.le_add_right _ _) (Nat.le_add_right _ _)
  · show jf_PL_encode N M B  = _
    unfold jf_PL_encode jb_PL_encode_0
    rw [(gm_f hg).2.2.2.2, Option.bind_some, Option.bind_some, ob_Tk hg, e1]
    rfl
  · show jf_PM_encode N _ (B + 19)  = _
    rw [lf_PM_encode, o2]
    rfl
theorem ca_token {B N : Nat} (hN : 4000 ≤ N) {M : mv_M} (h : G1 B M) (a : Int32) : RC B M (fun M => jf_PL_token N M B a) (fun M => jf_PM_token N M (B + 19) a) := by
  obtain ⟨ta, py, sc, tk, pm, X, Λ, ρ, τ, hg, hr⟩ := h
  have _ := hN
  obtain ⟨r, o1, o2⟩ := op_token N hr.2.2.2.1 a
  have e1 := lf_Tk_tokenAt (B + 13) M N tk a
  rw [gm_Tk hg, o1] at e1
  refine rc_end (r := r) (pm' := pm) (M1 := wr_Tk (B + 13) M tk) ?_ (gs_Tk hg tk) ?_ (hr) (Nat.le_add_right _ _) (Nat.le_add_right _ _)
  · show jf_PL_token N M B a = _
    unfold jf_PL_token jb_PL_token_0
    rw [(gm_f hg).2.2.2.2, Option.bind_some, Option.bind_some, ob_Tk hg, e1]
    rfl
  · show jf_PM_token N _ (B + 19) a = _
    rw [lf_PM_token, o2]
    rfl
