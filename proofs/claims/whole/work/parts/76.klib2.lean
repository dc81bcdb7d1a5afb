/-! NUMBERS AND STATES: ints by their integers; what is read and written in states; frames -/
theorem i2l (x : Int32) : x.toInt64 = zL x.toInt := by
  apply Int64.toInt_inj.mp
  have h1 := Int32.le_toInt x; have h2 := Int32.toInt_lt x
  rw [Int32.toInt_toInt64, zL_toInt ⟨by omega, by omega⟩]
theorem rg_i (x : Int32) : rg x.toInt := by
  have h1 := Int32.le_toInt x; have h2 := Int32.toInt_lt x
  exact ⟨by omega, by omega⟩
theorem n2l {n : Nat} (h : n < 2 ^ 31) : (nI n).toInt64 = zL (n : Int) := by
  rw [i2l, nI_toInt h]
theorem nI_mul (a b : Nat) : nI a * nI b = nI (a * b) := (Int32.ofNat_mul a b).symm
theorem nI_sub {a b : Nat} (h : b ≤ a) : nI a - nI b = nI (a - b) := by
  have e : nI a = nI (a - b) + nI b := by
    rw [nI_add]
    congr 1
    omega
  rw [e, Int32.add_sub_cancel]
theorem kp_isIn (N : Nat) {v a b : Int} (hv : rg v) (ha : rg a) (hb : rg b) : kf_PM_isIn N (zL v) (zL a) (zL b) = some (bI (a ≤ v ∧ v ≤ b)) := by
  unfold kf_PM_isIn kb_PM_isIn_0 kb_PM_isIn_17 kb_PM_isIn_18 bI
  by_cases h : v < a
  · rw [if_pos ((zg_lt hv ha).mpr h), if_neg (c := a ≤ v ∧ v ≤ b) (by omega)]
    rfl
  · rw [if_neg (fun q => h ((zg_lt hv ha).mp q))]
    by_cases h2 : b < v
    · rw [if_pos ((zg_gt hv hb).mpr h2), if_neg (c := a ≤ v ∧ v ≤ b) (by omega)]
      rfl
    · rw [if_neg (fun q => h2 ((zg_gt hv hb).mp q)), if_pos (c := a ≤ v ∧ v ≤ b) (by omega)]
      rfl
theorem bI_0 {c : Prop} [Decidable c] : bI c = 0 ↔ ¬ c := by
  unfold bI
  by_cases h : c
  · rw [if_pos h]
    exact ⟨fun q => absurd q (by decide), fun q => absurd h q⟩
  · rw [if_neg h]
    exact ⟨fun _ => h, fun _ => rfl⟩
theorem mj_tab_nI {f : Nat → Int32} {n j : Nat} (h : j < n) (hn : n < 2 ^ 31) : mj_tab f n (nI j) = some (f j) := by
  unfold mj_tab
  rw [if_pos (mj_in_nI h hn), nI_clamp (by omega)]
theorem mj_tabL_nI {f : Nat → Int64} {n j : Nat} (h : j < n) (hn : n < 2 ^ 31) : mj_tabL f n (nI j) = some (f j) := by
  unfold mj_tabL
  rw [if_pos (mj_in_nI h hn), nI_clamp (by omega)]
theorem mj_gd_nI {β : Type} {A : Option β} {n j : Nat} (h : j < n) (hn : n < 2 ^ 31) : mj_gd (nI j) n A = A := if_pos (mj_in_nI h hn)
theorem upd_at (f : Nat → Int32) (k : Nat) (x : Int32) (j : Nat) : upd f k x j = if j = k then x else f j := by
  unfold upd
  rfl
theorem kI_1 (σ : kS) (k : Nat) (x : Int32) (j : Nat) : (kI σ k x).1 j = if j = k then x else σ.1 j := upd_at _ _ _ _
theorem kI_2 (σ : kS) (k : Nat) (x : Int32) : (kI σ k x).2 = σ.2 := rfl
theorem kL_1 (σ : kS) (k : Nat) (x : Int64) : (kL σ k x).1 = σ.1 := rfl
theorem kL_2 (σ : kS) (k : Nat) (x : Int64) (j : Nat) : (kL σ k x).2.1 j = if j = k then x else σ.2.1 j := rfl
theorem kL_3 (σ : kS) (k : Nat) (x : Int64) : (kL σ k x).2.2 = σ.2.2 := rfl
theorem kA_1 (σ : kS) (f i : Nat) (x : Int32) : (kA σ f i x).1 = σ.1 := rfl
theorem kA_2 (σ : kS) (f i : Nat) (x : Int32) : (kA σ f i x).2.1 = σ.2.1 := rfl
theorem kA_3 (σ : kS) (f i : Nat) (x : Int32) (g j : Nat) : (kA σ f i x).2.2.1 g j = if g = f ∧ j = i then x else σ.2.2.1 g j := by
  unfold kA
  show va_up σ.2.2.1 f (upd (σ.2.2.1 f) i x) g j = _
  by_cases h : g = f
  · subst h
    rw [va_up_self, upd_at]
    simp
  · rw [va_up_ne _ _ h]
    simp [h]
theorem kA_ne (σ : kS) (f i : Nat) (x : Int32) {g : Nat} (h : g ≠ f) : (kA σ f i x).2.2.1 g = σ.2.2.1 g := va_up_ne _ _ h
theorem kA_4 (σ : kS) (f i : Nat) (x : Int32) : (kA σ f i x).2.2.2 = σ.2.2.2 := rfl
theorem kB_1 (σ : kS) (f i : Nat) (x : Int64) : (kB σ f i x).1 = σ.1 := rfl
theorem kB_2 (σ : kS) (f i : Nat) (x : Int64) : (kB σ f i x).2.1 = σ.2.1 := rfl
theorem kB_3 (σ : kS) (f i : Nat) (x : Int64) : (kB σ f i x).2.2.1 = σ.2.2.1 := rfl
theorem kB_4 (σ : kS) (f i : Nat) (x : Int64) (g j : Nat) : (kB σ f i x).2.2.2 g j = if g = f ∧ j = i then x else σ.2.2.2 g j := by
  unfold kB
  show va_up σ.2.2.2 f (vp_updL (σ.2.2.2 f) i x) g j = _
  by_cases h : g = f
  · subst h
    rw [va_up_self]
    unfold vp_updL
    simp
  · rw [va_up_ne _ _ h]
    simp [h]
theorem kB_ne (σ : kS) (f i : Nat) (x : Int64) {g : Nat} (h : g ≠ f) : (kB σ f i x).2.2.2 g = σ.2.2.2 g := va_up_ne _ _ h
/-- a frame: what is not named is kept -/
def kfr (I L A B : List Nat) (σ s : kS) : Prop := (∀ j, j ∉ I → s.1 j = σ.1 j) ∧ (∀ j, j ∉ L → s.2.1 j = σ.2.1 j) ∧ (∀ j, j ∉ A → s.2.2.1 j = σ.2.2.1 j) ∧ (∀ j, j ∉ B → s.2.2.2 j = σ.2.2.2 j)
theorem kfr_refl (I L A B : List Nat) (σ : kS) : kfr I L A B σ σ := ⟨fun _ _ => rfl, fun _ _ => rfl, fun _ _ => rfl, fun _ _ => rfl⟩
theorem kfr_trans {I L A B : List Nat} {σ s t : kS} (h : kfr I L A B σ s) (g : kfr I L A B s t) : kfr I L A B σ t :=
  ⟨fun j q => (g.1 j q).trans (h.1 j q), fun j q => (g.2.1 j q).trans (h.2.1 j q), fun j q => (g.2.2.1 j q).trans (h.2.2.1 j q), fun j q => (g.2.2.2 j q).trans (h.2.2.2 j q)⟩
theorem kfr_I {I L A B : List Nat} {σ : kS} {k : Nat} {x : Int32} (h : k ∈ I) : kfr I L A B σ (kI σ k x) :=
  ⟨fun j q => by rw [kI_1, if_neg (fun e : j = k => q (e ▸ h))], fun _ _ => rfl, fun _ _ => rfl, fun _ _ => rfl⟩
theorem kfr_L {I L A B : List Nat} {σ : kS} {k : Nat} {x : Int64} (h : k ∈ L) : kfr I L A B σ (kL σ k x) :=
  ⟨fun _ _ => rfl, fun j q => by rw [kL_2, if_neg (fun e : j = k => q (e ▸ h))], fun _ _ => rfl, fun _ _ => rfl⟩
theorem kfr_A {I L A B : List Nat} {σ : kS} {f i : Nat} {x : Int32} (h : f ∈ A) : kfr I L A B σ (kA σ f i x) :=
  ⟨fun _ _ => rfl, fun _ _ => rfl, fun j q => kA_ne _ _ _ _ (fun e => q (e ▸ h)), fun _ _ => rfl⟩
theorem kfr_B {I L A B : List Nat} {σ : kS} {f i : Nat} {x : Int64} (h : f ∈ B) : kfr I L A B σ (kB σ f i x) :=
  ⟨fun _ _ => rfl, fun _ _ => rfl, fun _ _ => rfl, fun j q => kB_ne _ _ _ _ (fun e => q (e ▸ h))⟩
theorem kfr_PQ {I L A B : List Nat} {σ : kS} {f : Option Rat} (h0 : 0 ∈ L) (h1 : 1 ∈ L) : kfr I L A B σ (kPQ σ f) := kfr_trans (kfr_L h0) (kfr_L h1)
theorem kfr_mono {I L A B I2 L2 A2 B2 : List Nat} {σ s : kS} (h : kfr I L A B σ s) (hI : I ⊆ I2) (hL : L ⊆ L2) (hA : A ⊆ A2) (hB : B ⊆ B2) : kfr I2 L2 A2 B2 σ s :=
  ⟨fun j q => h.1 j (fun e => q (hI e)), fun j q => h.2.1 j (fun e => q (hL e)), fun j q => h.2.2.1 j (fun e => q (hA e)), fun j q => h.2.2.2 j (fun e => q (hB e))⟩
/-- a fraction that has room -/
theorem fo_some {a b : Int} (hb : b ≠ 0) (h1 : a.natAbs ≤ 2147483647) (h2 : b.natAbs ≤ 2147483647) : fo a b = some (Rat.divInt a b) := by
  unfold fo fx
  rw [if_neg hb, if_pos]
  have k1 := Int.natAbs_tdiv_le_natAbs a ((Nat.gcd a.natAbs b.natAbs : Nat) : Int)
  have k2 := Int.natAbs_tdiv_le_natAbs b ((Nat.gcd a.natAbs b.natAbs : Nat) : Int)
  have e1 := di_num (a := a) hb
  have e2 := di_den (a := a) hb
  split at e1
  · rename_i hs
    rw [if_pos hs] at e2
    omega
  · rename_i hs
    rw [if_neg hs] at e2
    omega
theorem kk_some {α β S : Type} (a : α) (s : S) (f : α → S → Option β) : kk_call (some (a, s)) f = f a s := rfl
