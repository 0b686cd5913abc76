/-! ===== the two answers that are no whole numbers ===== -/
theorem isT_nI {x : Int32} : isT x = true ↔ ∃ k : Nat, k < 16 ∧ x = nI k := by
  constructor
  · intro h
    rcases isT_ok h with h1 | h1
    · exact absurd h1 (isT_ne h)
    · exact h1
  · rintro ⟨k, hk, rfl⟩
    unfold isT
    exact decide_eq_true ⟨nI_pos (by omega), nI_nlt (a := 15) (b := k) (by omega) (by omega)⟩
theorem bl_a : ∀ a, a < 16 → ∀ b, b < 16 → isT ((nI a + nI b) / 2) = true := by decide +kernel
theorem bl_m : ∀ a, a < 16 → ∀ b, b < 16 → isT (nI a * nI b / 15) = true := by decide +kernel
theorem bl_s : ∀ a, a < 16 → ∀ b, b < 16 → isT (15 - (15 - nI a) * (15 - nI b) / 15) = true := by decide +kernel
theorem blend_ok {md b t : Int32} (hb : isT b = true) (ht : isT t = true) : isT (blendG md b t) = true := by
  obtain ⟨i, hi, e1⟩ := isT_nI.mp hb
  obtain ⟨j, hj, e2⟩ := isT_nI.mp ht
  unfold blendG
  by_cases h1 : md = 97
  · rw [if_pos h1, e1, e2]; exact bl_a i hi j hj
  · rw [if_neg h1]
    by_cases h2 : md = 100
    · rw [if_pos h2]
      split
      · exact ht
      · exact hb
    · rw [if_neg h2]
      by_cases h3 : md = 108
      · rw [if_pos h3]
        split
        · exact ht
        · exact hb
      · rw [if_neg h3]
        by_cases h4 : md = 109
        · rw [if_pos h4, e1, e2]; exact bl_m i hi j hj
        · rw [if_neg h4]
          by_cases h5 : md = 115
          · rw [if_pos h5, e1, e2]; exact bl_s i hi j hj
          · rw [if_neg h5]; exact ht
theorem see_ok {g : WL} {S : Nat → Int32} (r : RelS g S) {c : Nat} (hc : c < 48) : ∃ k : Nat, k < 16 ∧ seeG g c = nI k := by
  refine isT_nI.mp ?_
  have key : ∀ m, m ≤ g.n → isT (fo m (overF g c) 15) = true := by
    intro m
    induction m with
    | zero =>
      intro _
      show isT 15 = true
      decide
    | succ m ih =>
      intro hm
      rw [fo_succ]
      have h1 := ih (by omega)
      have h2 := ((r.2.2.2.2 m (by omega)).2.2.2 c hc).2
      unfold overF
      by_cases h3 : g.v m = 0 ∨ g.t m c = -1
      · rw [if_pos h3]; exact h1
      · rw [if_neg h3]
        refine blend_ok h1 ?_
        rcases h2 with h2 | h2
        · exact absurd (Or.inr h2) h3
        · exact isT_nI.mpr h2
  exact key g.n (Nat.le_refl _)
theorem sumR_bd {T : Nat → Int32} (hT : ∀ c, c < 48 → ∃ k : Nat, k < 16 ∧ T c = nI k) {y : Nat} (hy : y < 6) : ∀ (n l s : Nat), l + n ≤ 8 → ∃ m, m ≤ s + 15 * n ∧ sumR T l n y (nI s) = nI m
  | 0, l, s, _ => ⟨s, by omega, rfl⟩
  | n + 1, l, s, h => by
    obtain ⟨k, hk, e⟩ := hT (8 * y + l) (by omega)
    obtain ⟨m, hm, e2⟩ := sumR_bd hT hy n (l + 1) (s + k) (by omega)
    refine ⟨m, by omega, ?_⟩
    show sumR T (l + 1) n y (nI s + T (8 * y + l)) = nI m
    rw [e, nI_add]
    exact e2
theorem sumQ_bd {T : Nat → Int32} (hT : ∀ c, c < 48 → ∃ k : Nat, k < 16 ∧ T c = nI k) : ∀ (m up s : Nat), up + m ≤ 6 → ∃ v, v ≤ s + 120 * m ∧ sumQ T 0 8 up m (nI s) = nI v
  | 0, up, s, _ => ⟨s, by omega, rfl⟩
  | m + 1, up, s, h => by
    obtain ⟨v, hv, e⟩ := sumR_bd hT (y := up) (by omega) 8 0 s (by omega)
    obtain ⟨v2, hv2, e2⟩ := sumQ_bd hT m (up + 1) v (by omega)
    refine ⟨v2, by omega, ?_⟩
    show sumQ T 0 8 (up + 1) m (sumR T 0 8 up (nI s)) = nI v2
    rw [e]
    exact e2
theorem fp_f : ∀ n, n < 49 → x_n32 (FP.fdiv (FP.i2f (nI n)) (1111490560 : UInt32)) = true ∧ x_n64 (FP.f2d (FP.fdiv (FP.i2f (nI n)) (1111490560 : UInt32))) = true ∧ Op.cmpValue (FP.dcmp (FP.f2d (FP.fdiv (FP.i2f (nI n)) (1111490560 : UInt32))) (FP.f2d (FP.fdiv (FP.i2f (nI n)) (1111490560 : UInt32)))) .l = 0 := by decide +kernel
theorem fp_d : ∀ n, n < 721 → x_n64 (FP.ddiv (FP.i2d (nI n)) (4631952216750555136 : UInt64)) = true ∧ Op.cmpValue (FP.dcmp (FP.ddiv (FP.i2d (nI n)) (4631952216750555136 : UInt64)) (FP.ddiv (FP.i2d (nI n)) (4631952216750555136 : UInt64))) .l = 0 := by decide +kernel
