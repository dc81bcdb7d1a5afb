/-! TOKENS, 4: letters fed -/
theorem zL_255 (x : Int64) : ∃ b : Nat, b < 256 ∧ x &&& 255 = zL (b : Int) := by
  refine ⟨(x.toInt % 256).toNat, by omega, ?_⟩
  have e : x &&& 255 = zL (x.toInt % 256) := by
    conv => lhs; rw [← zL_self x]
    apply Int64.toBitVec_inj.mp
    apply BitVec.eq_of_toNat_eq
    rw [Int64.toBitVec_and, BitVec.toNat_and]
    show (BitVec.ofInt 64 x.toInt).toNat &&& (2 ^ 8 - 1) = (BitVec.ofInt 64 (x.toInt % 256)).toNat
    rw [Nat.and_two_pow_sub_one_eq_mod, BitVec.toNat_ofInt, BitVec.toNat_ofInt]
    omega
  rw [e]
  congr 1
  omega
theorem zL_i {b : Nat} (h : b < 256) : (zL (b : Int)).toInt32 = nI b := by
  apply Int32.toInt_inj.mp
  rw [Int64.toInt_toInt32, zL_toInt (rg_nat (by omega)), nI_toInt (by omega), Int.bmod_eq_of_le (by omega) (by omega)]
theorem lt_97 {b : Nat} (h : b < 256) : (nI b - 97).toInt = (b : Int) - 97 := by
  rw [Int32.toInt_sub, nI_toInt (by omega), show (97 : Int32).toInt = 97 from by decide, Int.bmod_eq_of_le (by omega) (by omega)]
def byt (v : Int64) (i : Int32) : Int64 := ((v.toUInt64 >>> (((8 * i) : Int32).toInt64.toUInt64 &&& Int64.toUInt64 63)).toInt64) &&& 255
theorem byt_b (v : Int64) : ∃ f : Nat → Nat, ∀ i, f i < 256 ∧ byt v (nI i) = zL ((f i : Nat) : Int) :=
  ⟨fun i => Classical.choose (zL_255 _), fun i => Classical.choose_spec (zL_255 ((v.toUInt64 >>> (((8 * nI i) : Int32).toInt64.toUInt64 &&& Int64.toUInt64 63)).toInt64))⟩
theorem fd_check {N : Nat} (τ σ : kS) (v : Int64) {f : Nat → Nat} (hf : ∀ i, f i < 256 ∧ byt v (nI i) = zL ((f i : Nat) : Int)) {m : Nat} (hm : m ≤ 8) : ∀ (d i f1 f2 : Nat), d + i = m → d < f1 → d < f2 →
    ((∀ q, i ≤ q → q < m → 97 ≤ f q ∧ f q ≤ 122) ∧ kb_Tk_addLetters_16 N f1 τ v (nI m) (nI i) = (if (τ.1 5 + nI m) ≤ 200 then kb_Tk_addLetters_68 N N τ v (nI m) 0 else some (-3, τ)) ∧ kb_PM_feed_17 N f2 σ v (nI m) (nI i) = (if (σ.1 31 + nI m) ≤ 200 then kb_PM_feed_72 N N σ v (nI m) 0 else some (-3, σ))) ∨
    (kb_Tk_addLetters_16 N f1 τ v (nI m) (nI i) = some (-1, τ) ∧ kb_PM_feed_17 N f2 σ v (nI m) (nI i) = some (-1, σ)) := by
  intro d
  induction d with
  | zero =>
    intro i f1 f2 hd h1 h2
    obtain ⟨f1', rfl⟩ : ∃ f', f1 = f' + 1 := ⟨f1 - 1, by omega⟩
    obtain ⟨f2', rfl⟩ : ∃ f', f2 = f' + 1 := ⟨f2 - 1, by omega⟩
    have hi : i = m := by omega
    subst hi
    refine Or.inl ⟨fun q h1 h2 => absurd h1 (by omega), ?_, ?_⟩
    · rw [kb_Tk_addLetters_16, if_pos (Int32.le_refl _)]
    · rw [kb_PM_feed_17, if_pos (Int32.le_refl _)]
  | succ d ih =>
    intro i f1 f2 hd h1 h2
    obtain ⟨f1', rfl⟩ : ∃ f', f1 = f' + 1 := ⟨f1 - 1, by omega⟩
    obtain ⟨f2', rfl⟩ : ∃ f', f2 = f' + 1 := ⟨f2 - 1, by omega⟩
    obtain ⟨b1, b2⟩ := hf i
    have hle : ¬ nI m ≤ nI i := by rw [nI_leI (by omega) (by omega)]; omega
    have ea : kf_Tk_letterAt N v (nI i) = some (nI (f i) - 97) := by
      show some ((byt v (nI i)).toInt32 - 97) = _
      rw [b2, zL_i b1]
    have eb : kf_PM_isIn N (byt v (nI i)) 97 122 = some (bI (97 ≤ ((f i : Nat) : Int) ∧ ((f i : Nat) : Int) ≤ 122)) := by
      have r97 : rg 97 := ⟨by decide, by decide⟩
      have r122 : rg 122 := ⟨by decide, by decide⟩
      rw [b2, show (97 : Int64) = zL 97 from rfl, show (122 : Int64) = zL 122 from rfl]
      exact kp_isIn N (rg_nat (by omega)) r97 r122
    have k1 : nI (f i) - 97 < 0 ↔ f i < 97 := by
      rw [i32lt, lt_97 b1, show (0 : Int32).toInt = 0 from by decide]
      omega
    have k2 : nI (f i) - 97 < 26 ↔ f i < 123 := by
      rw [i32lt, lt_97 b1, show (26 : Int32).toInt = 26 from by decide]
      omega
    have ec : kb_Tk_addLetters_16 N (f1' + 1) τ v (nI m) (nI i) = if nI (f i) - 97 < 0 then some (-1, τ) else if nI (f i) - 97 < 26 then kb_Tk_addLetters_16 N f1' τ v (nI m) (nI (i + 1)) else some (-1, τ) := by
      rw [kb_Tk_addLetters_16, if_neg hle, ea, Option.bind_some, nI_1]
      rfl
    have ep : kb_PM_feed_17 N (f2' + 1) σ v (nI m) (nI i) = if bI (97 ≤ ((f i : Nat) : Int) ∧ ((f i : Nat) : Int) ≤ 122) = 0 then some (-1, σ) else kb_PM_feed_17 N f2' σ v (nI m) (nI (i + 1)) := by
      rw [kb_PM_feed_17, if_neg hle, nI_1]
      show Option.bind (kf_PM_isIn N (byt v (nI i)) 97 122) _ = _
      rw [eb]
      rfl
    rw [ec, ep]
    by_cases h0 : 97 ≤ f i ∧ f i ≤ 122
    · rw [if_neg (fun q => by have := k1.mp q; omega), if_pos (k2.mpr (by omega)), if_neg (fun q => bI_0.mp q (by omega))]
      rcases ih (i + 1) f1' f2' (by omega) (by omega) (by omega) with ⟨r1, r2, r3⟩ | r
      · exact Or.inl ⟨fun q h1 h2 => by
          by_cases e : q = i
          · rw [e]
            exact h0
          · exact r1 q (by omega) h2, r2, r3⟩
      · exact Or.inr r
    · refine Or.inr ⟨?_, if_pos (bI_0.mpr (by omega))⟩
      by_cases h1 : f i < 97
      · rw [if_pos (k1.mpr h1)]
      · rw [if_neg (fun q => h1 (k1.mp q)), if_neg (fun q => by have := k2.mp q; omega)]
theorem fd_put {N : Nat} (v : Int64) {f X : Nat → Nat} (hf : ∀ i, f i < 256 ∧ byt v (nI i) = zL ((f i : Nat) : Int)) {n m : Nat} (hm : m ≤ 8) (hnm : n + m ≤ 200) (hX : ∀ i, i < m → X (n + i) = f i - 97) (hg : ∀ i, i < m → 97 ≤ f i ∧ f i ≤ 122) : ∀ (d i f1 f2 : Nat) (τ σ : kS), d + i = m → d < f1 → d < f2 → τ.1 5 = nI n → σ.1 31 = nI (n + i) → (∀ q, q < n + i → τ.2.2.1 0 q = nI (X q) ∧ σ.2.2.1 32 q = nI (X q)) →
    ∃ τ2 s, kb_Tk_addLetters_68 N f1 τ v (nI m) (nI i) = some (nI (n + m), τ2) ∧ kb_PM_feed_72 N f2 σ v (nI m) (nI i) = some (nI (n + m), s) ∧ τ2.1 5 = nI (n + m) ∧ s.1 31 = nI (n + m) ∧ (∀ q, q < n + m → τ2.2.2.1 0 q = nI (X q) ∧ s.2.2.1 32 q = nI (X q)) ∧ kfr [5] [] [0] [] τ τ2 ∧ kfr [31] [] [32] [] σ s := by
  intro d
  induction d with
  | zero =>
    intro i f1 f2 τ σ hd h1 h2 h5 h31 hx
    obtain ⟨f1', rfl⟩ : ∃ f', f1 = f' + 1 := ⟨f1 - 1, by omega⟩
    obtain ⟨f2', rfl⟩ : ∃ f', f2 = f' + 1 := ⟨f2 - 1, by omega⟩
    have hi : i = m := by omega
    subst hi
    refine ⟨kI τ 5 (nI (n + i)), σ, ?_, ?_, rfl, h31, hx, kfr_I (by decide), kfr_refl _ _ _ _ _⟩
    · rw [kb_Tk_addLetters_68, if_pos (Int32.le_refl _), h5, nI_add]
      rfl
    · rw [kb_PM_feed_72, if_pos (Int32.le_refl _), h31]
  | succ d ih =>
    intro i f1 f2 τ σ hd h1 h2 h5 h31 hx
    obtain ⟨f1', rfl⟩ : ∃ f', f1 = f' + 1 := ⟨f1 - 1, by omega⟩
    obtain ⟨f2', rfl⟩ : ∃ f', f2 = f' + 1 := ⟨f2 - 1, by omega⟩
    obtain ⟨b1, b2⟩ := hf i
    obtain ⟨c1, c2⟩ := hg i (by omega)
    have hle : ¬ nI m ≤ nI i := by rw [nI_leI (by omega) (by omega)]; omega
    have e97 : nI (f i) - 97 = nI (X (n + i)) := by
      rw [hX i (by omega)]
      exact nI_sub c1
    have ea : kf_Tk_letterAt N v (nI i) = some (nI (X (n + i))) := by
      show some ((byt v (nI i)).toInt32 - 97) = _
      rw [b2, zL_i b1, e97]
    obtain ⟨τ2, s, r1, r2, r3, r4, r5, r6, r7⟩ := ih (i + 1) f1' f2' (kA τ 0 (n + i) (nI (X (n + i)))) (kA (kI σ 31 (nI (n + i + 1))) 32 (n + i) (nI (X (n + i)))) (by omega) (by omega) (by omega) h5 rfl (fun q hq => by
      rw [kA_3, kA_3]
      by_cases e : q = n + i
      · rw [if_pos ⟨rfl, e⟩, if_pos ⟨rfl, e⟩, e]
        exact ⟨rfl, rfl⟩
      · rw [if_neg (fun w => e w.2), if_neg (fun w => e w.2)]
        exact hx q (by omega))
    refine ⟨τ2, s, ?_, ?_, r3, r4, r5, kfr_trans (kfr_A (by decide)) r6, kfr_trans (kfr_trans (kfr_I (by decide)) (kfr_A (by decide))) r7⟩
    · rw [kb_Tk_addLetters_68, if_neg hle, ea, Option.bind_some, h5, nI_add, mj_gd_nI (by omega) (by omega), nI_clamp (by omega), nI_1]
      exact r1
    · have e2 : (byt v (nI i)).toInt32 - 97 = nI (X (n + i)) := by rw [b2, zL_i b1, e97]
      unfold byt at e2
      rw [kb_PM_feed_72, if_neg hle, h31]
      simp only [kk_let]
      rw [e2, mj_gd_nI (by omega) (by omega), nI_clamp (by omega), nI_1, nI_1]
      exact r2
