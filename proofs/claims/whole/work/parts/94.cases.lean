/-! ===== the law's cases ===== -/
theorem hh_hA1S2 (E : String) (w : xW) (h : hA1S2 E ≠ 0) : (if E = IAE then (x_ret 1 w) else if E = ISE then (x_ret 2 w) else none : xO Int32) = x_ret (hA1S2 E) w := by
  unfold hA1S2 at h ⊢
  by_cases h1 : E = IAE
  · rw [if_pos h1, if_pos h1]
  · rw [if_neg h1] at h
    rw [if_neg h1, if_neg h1]
    by_cases h2 : E = ISE
    · rw [if_pos h2, if_pos h2]
    · rw [if_neg h2] at h
      rw [if_neg h2, if_neg h2]
      exact absurd rfl h
theorem hh_hI1 (E : String) (w : xW) (h : hI1 E ≠ 0) : (if E = IOB then (x_ret 1 w) else none : xO Int32) = x_ret (hI1 E) w := by
  unfold hI1 at h ⊢
  by_cases h1 : E = IOB
  · rw [if_pos h1, if_pos h1]
  · rw [if_neg h1] at h
    rw [if_neg h1, if_neg h1]
    exact absurd rfl h
theorem hh_hI1A2 (E : String) (w : xW) (h : hI1A2 E ≠ 0) : (if E = IOB then (x_ret 1 w) else if E = IAE then (x_ret 2 w) else none : xO Int32) = x_ret (hI1A2 E) w := by
  unfold hI1A2 at h ⊢
  by_cases h1 : E = IOB
  · rw [if_pos h1, if_pos h1]
  · rw [if_neg h1] at h
    rw [if_neg h1, if_neg h1]
    by_cases h2 : E = IAE
    · rw [if_pos h2, if_pos h2]
    · rw [if_neg h2] at h
      rw [if_neg h2, if_neg h2]
      exact absurd rfl h
theorem hh_hI1S2 (E : String) (w : xW) (h : hI1S2 E ≠ 0) : (if E = IOB then (x_ret 1 w) else if E = ISE then (x_ret 2 w) else none : xO Int32) = x_ret (hI1S2 E) w := by
  unfold hI1S2 at h ⊢
  by_cases h1 : E = IOB
  · rw [if_pos h1, if_pos h1]
  · rw [if_neg h1] at h
    rw [if_neg h1, if_neg h1]
    by_cases h2 : E = ISE
    · rw [if_pos h2, if_pos h2]
    · rw [if_neg h2] at h
      rw [if_neg h2, if_neg h2]
      exact absurd rfl h
theorem hh_hI1N2U3 (E : String) (w : xW) (h : hI1N2U3 E ≠ 0) : (if E = IOB then (x_ret 1 w) else if E = NSE then (x_ret 2 w) else if E = UOE then (x_ret 3 w) else none : xO Int32) = x_ret (hI1N2U3 E) w := by
  unfold hI1N2U3 at h ⊢
  by_cases h1 : E = IOB
  · rw [if_pos h1, if_pos h1]
  · rw [if_neg h1] at h
    rw [if_neg h1, if_neg h1]
    by_cases h2 : E = NSE
    · rw [if_pos h2, if_pos h2]
    · rw [if_neg h2] at h
      rw [if_neg h2, if_neg h2]
      by_cases h3 : E = UOE
      · rw [if_pos h3, if_pos h3]
      · rw [if_neg h3] at h
        rw [if_neg h3, if_neg h3]
        exact absurd rfl h
theorem hh_hI1A2S3 (E : String) (w : xW) (h : hI1A2S3 E ≠ 0) : (if E = IOB then (x_ret 1 w) else if E = IAE then (x_ret 2 w) else if E = ISE then (x_ret 3 w) else none : xO Int32) = x_ret (hI1A2S3 E) w := by
  unfold hI1A2S3 at h ⊢
  by_cases h1 : E = IOB
  · rw [if_pos h1, if_pos h1]
  · rw [if_neg h1] at h
    rw [if_neg h1, if_neg h1]
    by_cases h2 : E = IAE
    · rw [if_pos h2, if_pos h2]
    · rw [if_neg h2] at h
      rw [if_neg h2, if_neg h2]
      by_cases h3 : E = ISE
      · rw [if_pos h3, if_pos h3]
      · rw [if_neg h3] at h
        rw [if_neg h3, if_neg h3]
        exact absurd rfl h
theorem hh_hI1N2 (E : String) (w : xW) (h : hI1N2 E ≠ 0) : (if E = IOB then (x_ret 1 w) else if E = NSE then (x_ret 2 w) else none : xO Int32) = x_ret (hI1N2 E) w := by
  unfold hI1N2 at h ⊢
  by_cases h1 : E = IOB
  · rw [if_pos h1, if_pos h1]
  · rw [if_neg h1] at h
    rw [if_neg h1, if_neg h1]
    by_cases h2 : E = NSE
    · rw [if_pos h2, if_pos h2]
    · rw [if_neg h2] at h
      rw [if_neg h2, if_neg h2]
      exact absurd rfl h
theorem hh_hA1 (E : String) (w : xW) (h : hA1 E ≠ 0) : (if E = IAE then (x_ret 1 w) else none : xO Int32) = x_ret (hA1 E) w := by
  unfold hA1 at h ⊢
  by_cases h1 : E = IAE
  · rw [if_pos h1, if_pos h1]
  · rw [if_neg h1] at h
    rw [if_neg h1, if_neg h1]
    exact absurd rfl h
theorem hh_hN1 (E : String) (w : xW) (h : hN1 E ≠ 0) : (if E = NSE then (x_ret 1 w) else none : xO Int32) = x_ret (hN1 E) w := by
  unfold hN1 at h ⊢
  by_cases h1 : E = NSE
  · rw [if_pos h1, if_pos h1]
  · rw [if_neg h1] at h
    rw [if_neg h1, if_neg h1]
    exact absurd rfl h
theorem hh_hS1 (E : String) (w : xW) (h : hS1 E ≠ 0) : (if E = ISE then (x_ret 1 w) else none : xO Int32) = x_ret (hS1 E) w := by
  unfold hS1 at h ⊢
  by_cases h1 : E = ISE
  · rw [if_pos h1, if_pos h1]
  · rw [if_neg h1] at h
    rw [if_neg h1, if_neg h1]
    exact absurd rfl h
theorem hh_hA1U2 (E : String) (w : xW) (h : hA1U2 E ≠ 0) : (if E = IAE then (x_ret 1 w) else if E = UOE then (x_ret 2 w) else none : xO Int32) = x_ret (hA1U2 E) w := by
  unfold hA1U2 at h ⊢
  by_cases h1 : E = IAE
  · rw [if_pos h1, if_pos h1]
  · rw [if_neg h1] at h
    rw [if_neg h1, if_neg h1]
    by_cases h2 : E = UOE
    · rw [if_pos h2, if_pos h2]
    · rw [if_neg h2] at h
      rw [if_neg h2, if_neg h2]
      exact absurd rfl h
theorem in_sc {i L j : Nat} (h : i + 7 ≤ L) (hj : j < 7) (hL : L ≤ 3584) : ¬ (nI i + nI j < 0 ∨ L ≤ (nI i + nI j).toNatClampNeg) := by
  rw [nI_add]
  exact nI_in (by omega) (by omega)
section JC
variable {w : xW} {z : Nat} {γ : CG} {F : Nat → Int32} {ar : Nat → Nat → Int32} {v : Nat → Int64} {i L : Nat}
theorem J_248 (xs : Nat → Int32) (hi : i + 7 ≤ L) (hL : L ≤ 3584) (k23 : Nat → Nat → Nat → Int32 → xW → xO Int32) (C : Cls w z γ) (M : MoAt w (z + 168) F ar) (O : OuL w (z + 179) v) (R : Rel γ F ar) : ∃ w', f_L_law_J248 xs L k23 z (z + 168) (z + 179) (nI i) w = k23 z (z + 168) (z + 179) (nI i + 7) w' ∧ Inv z w' := by
  have h1 : ¬ (nI i + 1 < 0 ∨ L ≤ (nI i + 1).toNatClampNeg) := in_sc (j := 1) hi (by omega) hL
  unfold f_L_law_J248
  simp only [if_pos h1]
  exact J_int C O M (S_addLayer C R (x_c (xs (nI i + 1).toNatClampNeg))) hh_hA1S2 (fun w => k23 z (z + 168) (z + 179) (nI i + 7) w)
theorem J_306 (xs : Nat → Int32) (hi : i + 7 ≤ L) (hL : L ≤ 3584) (k23 : Nat → Nat → Nat → Int32 → xW → xO Int32) (C : Cls w z γ) (M : MoAt w (z + 168) F ar) (O : OuL w (z + 179) v) (R : Rel γ F ar) : ∃ w', f_L_law_J306 xs L k23 z (z + 168) (z + 179) (nI i) w = k23 z (z + 168) (z + 179) (nI i + 7) w' ∧ Inv z w' := by
  have h1 : ¬ (nI i + 1 < 0 ∨ L ≤ (nI i + 1).toNatClampNeg) := in_sc (j := 1) hi (by omega) hL
  unfold f_L_law_J306
  simp only [if_pos h1]
  exact J_int C O M (S_removeLayer C R (xs (nI i + 1).toNatClampNeg)) hh_hI1 (fun w => k23 z (z + 168) (z + 179) (nI i + 7) w)
theorem J_362 (xs : Nat → Int32) (hi : i + 7 ≤ L) (hL : L ≤ 3584) (k23 : Nat → Nat → Nat → Int32 → xW → xO Int32) (C : Cls w z γ) (M : MoAt w (z + 168) F ar) (O : OuL w (z + 179) v) (R : Rel γ F ar) : ∃ w', f_L_law_J362 xs L k23 z (z + 168) (z + 179) (nI i) w = k23 z (z + 168) (z + 179) (nI i + 7) w' ∧ Inv z w' := by
  have h1 : ¬ (nI i + 1 < 0 ∨ L ≤ (nI i + 1).toNatClampNeg) := in_sc (j := 1) hi (by omega) hL
  have h2 : ¬ (nI i + 2 < 0 ∨ L ≤ (nI i + 2).toNatClampNeg) := in_sc (j := 2) hi (by omega) hL
  have h3 : ¬ (nI i + 3 < 0 ∨ L ≤ (nI i + 3).toNatClampNeg) := in_sc (j := 3) hi (by omega) hL
  have h4 : ¬ (nI i + 4 < 0 ∨ L ≤ (nI i + 4).toNatClampNeg) := in_sc (j := 4) hi (by omega) hL
  have h5 : ¬ (nI i + 5 < 0 ∨ L ≤ (nI i + 5).toNatClampNeg) := in_sc (j := 5) hi (by omega) hL
  have h6 : ¬ (nI i + 6 < 0 ∨ L ≤ (nI i + 6).toNatClampNeg) := in_sc (j := 6) hi (by omega) hL
  unfold f_L_law_J362
  simp only [if_pos h1, if_pos h2, if_pos h3, if_pos h4, if_pos h5, if_pos h6]
  exact J_int C O M (S_paint C R (xs (nI i + 1).toNatClampNeg) (xs (nI i + 2).toNatClampNeg) (xs (nI i + 3).toNatClampNeg) (xs (nI i + 4).toNatClampNeg) (xs (nI i + 5).toNatClampNeg) (xs (nI i + 6).toNatClampNeg)) hh_hI1A2 (fun w => k23 z (z + 168) (z + 179) (nI i + 7) w)
theorem J_480 (xs : Nat → Int32) (hi : i + 7 ≤ L) (hL : L ≤ 3584) (k23 : Nat → Nat → Nat → Int32 → xW → xO Int32) (C : Cls w z γ) (M : MoAt w (z + 168) F ar) (O : OuL w (z + 179) v) (R : Rel γ F ar) : ∃ w', f_L_law_J480 xs L k23 z (z + 168) (z + 179) (nI i) w = k23 z (z + 168) (z + 179) (nI i + 7) w' ∧ Inv z w' := by
  have h1 : ¬ (nI i + 1 < 0 ∨ L ≤ (nI i + 1).toNatClampNeg) := in_sc (j := 1) hi (by omega) hL
  have h2 : ¬ (nI i + 2 < 0 ∨ L ≤ (nI i + 2).toNatClampNeg) := in_sc (j := 2) hi (by omega) hL
  have h3 : ¬ (nI i + 3 < 0 ∨ L ≤ (nI i + 3).toNatClampNeg) := in_sc (j := 3) hi (by omega) hL
  have h4 : ¬ (nI i + 4 < 0 ∨ L ≤ (nI i + 4).toNatClampNeg) := in_sc (j := 4) hi (by omega) hL
  unfold f_L_law_J480
  simp only [if_pos h1, if_pos h2, if_pos h3, if_pos h4]
  exact J_int C O M (S_erase C R (xs (nI i + 1).toNatClampNeg) (xs (nI i + 2).toNatClampNeg) (xs (nI i + 3).toNatClampNeg) (xs (nI i + 4).toNatClampNeg)) hh_hI1A2 (fun w => k23 z (z + 168) (z + 179) (nI i + 7) w)
theorem J_572 (xs : Nat → Int32) (hi : i + 7 ≤ L) (hL : L ≤ 3584) (k23 : Nat → Nat → Nat → Int32 → xW → xO Int32) (C : Cls w z γ) (M : MoAt w (z + 168) F ar) (O : OuL w (z + 179) v) (R : Rel γ F ar) : ∃ w', f_L_law_J572 xs L k23 z (z + 168) (z + 179) (nI i) w = k23 z (z + 168) (z + 179) (nI i + 7) w' ∧ Inv z w' := by
  have h1 : ¬ (nI i + 1 < 0 ∨ L ≤ (nI i + 1).toNatClampNeg) := in_sc (j := 1) hi (by omega) hL
  unfold f_L_law_J572
  simp only [if_pos h1]
  exact J_int C O M (S_hide C R (xs (nI i + 1).toNatClampNeg)) hh_hI1S2 (fun w => k23 z (z + 168) (z + 179) (nI i + 7) w)
theorem J_628 (xs : Nat → Int32) (hi : i + 7 ≤ L) (hL : L ≤ 3584) (k23 : Nat → Nat → Nat → Int32 → xW → xO Int32) (C : Cls w z γ) (M : MoAt w (z + 168) F ar) (O : OuL w (z + 179) v) (R : Rel γ F ar) : ∃ w', f_L_law_J628 xs L k23 z (z + 168) (z + 179) (nI i) w = k23 z (z + 168) (z + 179) (nI i + 7) w' ∧ Inv z w' := by
  have h1 : ¬ (nI i + 1 < 0 ∨ L ≤ (nI i + 1).toNatClampNeg) := in_sc (j := 1) hi (by omega) hL
  unfold f_L_law_J628
  simp only [if_pos h1]
  exact J_int C O M (S_show C R (xs (nI i + 1).toNatClampNeg)) hh_hI1S2 (fun w => k23 z (z + 168) (z + 179) (nI i + 7) w)
theorem J_684 (xs : Nat → Int32) (hi : i + 7 ≤ L) (hL : L ≤ 3584) (k23 : Nat → Nat → Nat → Int32 → xW → xO Int32) (C : Cls w z γ) (M : MoAt w (z + 168) F ar) (O : OuL w (z + 179) v) (R : Rel γ F ar) : ∃ w', f_L_law_J684 xs L k23 z (z + 168) (z + 179) (nI i) w = k23 z (z + 168) (z + 179) (nI i + 7) w' ∧ Inv z w' := by
  have h1 : ¬ (nI i + 1 < 0 ∨ L ≤ (nI i + 1).toNatClampNeg) := in_sc (j := 1) hi (by omega) hL
  have h2 : ¬ (nI i + 2 < 0 ∨ L ≤ (nI i + 2).toNatClampNeg) := in_sc (j := 2) hi (by omega) hL
  unfold f_L_law_J684
  simp only [if_pos h1, if_pos h2]
  exact J_int C O M (S_moveLayer C R (xs (nI i + 1).toNatClampNeg) (xs (nI i + 2).toNatClampNeg)) hh_hI1 (fun w => k23 z (z + 168) (z + 179) (nI i + 7) w)
theorem J_752 (xs : Nat → Int32) (hi : i + 7 ≤ L) (hL : L ≤ 3584) (k23 : Nat → Nat → Nat → Int32 → xW → xO Int32) (C : Cls w z γ) (M : MoAt w (z + 168) F ar) (O : OuL w (z + 179) v) (R : Rel γ F ar) : ∃ w', f_L_law_J752 xs L k23 z (z + 168) (z + 179) (nI i) w = k23 z (z + 168) (z + 179) (nI i + 7) w' ∧ Inv z w' := by
  have h1 : ¬ (nI i + 1 < 0 ∨ L ≤ (nI i + 1).toNatClampNeg) := in_sc (j := 1) hi (by omega) hL
  unfold f_L_law_J752
  simp only [if_pos h1]
  exact J_int C O M (S_mergeDown C R (xs (nI i + 1).toNatClampNeg)) hh_hI1N2U3 (fun w => k23 z (z + 168) (z + 179) (nI i + 7) w)
theorem J_808 (xs : Nat → Int32) (hi : i + 7 ≤ L) (hL : L ≤ 3584) (k23 : Nat → Nat → Nat → Int32 → xW → xO Int32) (C : Cls w z γ) (M : MoAt w (z + 168) F ar) (O : OuL w (z + 179) v) (R : Rel γ F ar) : ∃ w', f_L_law_J808 xs L k23 z (z + 168) (z + 179) (nI i) w = k23 z (z + 168) (z + 179) (nI i + 7) w' ∧ Inv z w' := by
  have h1 : ¬ (nI i + 1 < 0 ∨ L ≤ (nI i + 1).toNatClampNeg) := in_sc (j := 1) hi (by omega) hL
  have h2 : ¬ (nI i + 2 < 0 ∨ L ≤ (nI i + 2).toNatClampNeg) := in_sc (j := 2) hi (by omega) hL
  unfold f_L_law_J808
  simp only [if_pos h1, if_pos h2]
  exact J_int C O M (S_castShadow C R (xs (nI i + 1).toNatClampNeg) (xs (nI i + 2).toNatClampNeg)) hh_hI1A2S3 (fun w => k23 z (z + 168) (z + 179) (nI i + 7) w)
theorem J_876 (xs : Nat → Int32) (hi : i + 7 ≤ L) (hL : L ≤ 3584) (k23 : Nat → Nat → Nat → Int32 → xW → xO Int32) (C : Cls w z γ) (M : MoAt w (z + 168) F ar) (O : OuL w (z + 179) v) (R : Rel γ F ar) : ∃ w', f_L_law_J876 xs L k23 z (z + 168) (z + 179) (nI i) w = k23 z (z + 168) (z + 179) (nI i + 7) w' ∧ Inv z w' := by
  unfold f_L_law_J876
  exact J_pl C O M (S_layerCount C R _) (fun w => k23 z (z + 168) (z + 179) (nI i + 7) w)
theorem J_889 (xs : Nat → Int32) (hi : i + 7 ≤ L) (hL : L ≤ 3584) (k23 : Nat → Nat → Nat → Int32 → xW → xO Int32) (C : Cls w z γ) (M : MoAt w (z + 168) F ar) (O : OuL w (z + 179) v) (R : Rel γ F ar) : ∃ w', f_L_law_J889 xs L k23 z (z + 168) (z + 179) (nI i) w = k23 z (z + 168) (z + 179) (nI i + 7) w' ∧ Inv z w' := by
  have h1 : ¬ (nI i + 1 < 0 ∨ L ≤ (nI i + 1).toNatClampNeg) := in_sc (j := 1) hi (by omega) hL
  unfold f_L_law_J889
  simp only [if_pos h1]
  exact J_int C O M (S_mode C R (xs (nI i + 1).toNatClampNeg)) hh_hI1 (fun w => k23 z (z + 168) (z + 179) (nI i + 7) w)
theorem J_945 (xs : Nat → Int32) (hi : i + 7 ≤ L) (hL : L ≤ 3584) (k23 : Nat → Nat → Nat → Int32 → xW → xO Int32) (C : Cls w z γ) (M : MoAt w (z + 168) F ar) (O : OuL w (z + 179) v) (R : Rel γ F ar) : ∃ w', f_L_law_J945 xs L k23 z (z + 168) (z + 179) (nI i) w = k23 z (z + 168) (z + 179) (nI i + 7) w' ∧ Inv z w' := by
  have h1 : ¬ (nI i + 1 < 0 ∨ L ≤ (nI i + 1).toNatClampNeg) := in_sc (j := 1) hi (by omega) hL
  unfold f_L_law_J945
  simp only [if_pos h1]
  exact J_bool C O M (S_isVisible C R (xs (nI i + 1).toNatClampNeg)) hh_hI1 (fun w => k23 z (z + 168) (z + 179) (nI i + 7) w)
theorem J_1008 (xs : Nat → Int32) (hi : i + 7 ≤ L) (hL : L ≤ 3584) (k23 : Nat → Nat → Nat → Int32 → xW → xO Int32) (C : Cls w z γ) (M : MoAt w (z + 168) F ar) (O : OuL w (z + 179) v) (R : Rel γ F ar) : ∃ w', f_L_law_J1008 xs L k23 z (z + 168) (z + 179) (nI i) w = k23 z (z + 168) (z + 179) (nI i + 7) w' ∧ Inv z w' := by
  have h1 : ¬ (nI i + 1 < 0 ∨ L ≤ (nI i + 1).toNatClampNeg) := in_sc (j := 1) hi (by omega) hL
  have h2 : ¬ (nI i + 2 < 0 ∨ L ≤ (nI i + 2).toNatClampNeg) := in_sc (j := 2) hi (by omega) hL
  have h3 : ¬ (nI i + 3 < 0 ∨ L ≤ (nI i + 3).toNatClampNeg) := in_sc (j := 3) hi (by omega) hL
  unfold f_L_law_J1008
  simp only [if_pos h1, if_pos h2, if_pos h3]
  exact J_bool C O M (S_hasTone C R (xs (nI i + 1).toNatClampNeg) (xs (nI i + 2).toNatClampNeg) (xs (nI i + 3).toNatClampNeg)) hh_hI1 (fun w => k23 z (z + 168) (z + 179) (nI i + 7) w)
theorem J_1095 (xs : Nat → Int32) (hi : i + 7 ≤ L) (hL : L ≤ 3584) (k23 : Nat → Nat → Nat → Int32 → xW → xO Int32) (C : Cls w z γ) (M : MoAt w (z + 168) F ar) (O : OuL w (z + 179) v) (R : Rel γ F ar) : ∃ w', f_L_law_J1095 xs L k23 z (z + 168) (z + 179) (nI i) w = k23 z (z + 168) (z + 179) (nI i + 7) w' ∧ Inv z w' := by
  have h1 : ¬ (nI i + 1 < 0 ∨ L ≤ (nI i + 1).toNatClampNeg) := in_sc (j := 1) hi (by omega) hL
  have h2 : ¬ (nI i + 2 < 0 ∨ L ≤ (nI i + 2).toNatClampNeg) := in_sc (j := 2) hi (by omega) hL
  have h3 : ¬ (nI i + 3 < 0 ∨ L ≤ (nI i + 3).toNatClampNeg) := in_sc (j := 3) hi (by omega) hL
  unfold f_L_law_J1095
  simp only [if_pos h1, if_pos h2, if_pos h3]
  exact J_int C O M (S_tone C R (xs (nI i + 1).toNatClampNeg) (xs (nI i + 2).toNatClampNeg) (xs (nI i + 3).toNatClampNeg)) hh_hI1N2 (fun w => k23 z (z + 168) (z + 179) (nI i + 7) w)
theorem J_1175 (xs : Nat → Int32) (hi : i + 7 ≤ L) (hL : L ≤ 3584) (k23 : Nat → Nat → Nat → Int32 → xW → xO Int32) (C : Cls w z γ) (M : MoAt w (z + 168) F ar) (O : OuL w (z + 179) v) (R : Rel γ F ar) : ∃ w', f_L_law_J1175 xs L k23 z (z + 168) (z + 179) (nI i) w = k23 z (z + 168) (z + 179) (nI i + 7) w' ∧ Inv z w' := by
  have h1 : ¬ (nI i + 1 < 0 ∨ L ≤ (nI i + 1).toNatClampNeg) := in_sc (j := 1) hi (by omega) hL
  unfold f_L_law_J1175
  simp only [if_pos h1]
  exact J_int C O M (S_painted C R (xs (nI i + 1).toNatClampNeg)) hh_hI1 (fun w => k23 z (z + 168) (z + 179) (nI i + 7) w)
theorem J_1231 (xs : Nat → Int32) (hi : i + 7 ≤ L) (hL : L ≤ 3584) (k23 : Nat → Nat → Nat → Int32 → xW → xO Int32) (C : Cls w z γ) (M : MoAt w (z + 168) F ar) (O : OuL w (z + 179) v) (R : Rel γ F ar) : ∃ w', f_L_law_J1231 xs L k23 z (z + 168) (z + 179) (nI i) w = k23 z (z + 168) (z + 179) (nI i + 7) w' ∧ Inv z w' := by
  unfold f_L_law_J1231
  exact J_pl C O M (S_visibleCount C R _) (fun w => k23 z (z + 168) (z + 179) (nI i + 7) w)
theorem J_1244 (xs : Nat → Int32) (hi : i + 7 ≤ L) (hL : L ≤ 3584) (k23 : Nat → Nat → Nat → Int32 → xW → xO Int32) (C : Cls w z γ) (M : MoAt w (z + 168) F ar) (O : OuL w (z + 179) v) (R : Rel γ F ar) : ∃ w', f_L_law_J1244 xs L k23 z (z + 168) (z + 179) (nI i) w = k23 z (z + 168) (z + 179) (nI i + 7) w' ∧ Inv z w' := by
  have h1 : ¬ (nI i + 1 < 0 ∨ L ≤ (nI i + 1).toNatClampNeg) := in_sc (j := 1) hi (by omega) hL
  have h2 : ¬ (nI i + 2 < 0 ∨ L ≤ (nI i + 2).toNatClampNeg) := in_sc (j := 2) hi (by omega) hL
  unfold f_L_law_J1244
  simp only [if_pos h1, if_pos h2]
  exact J_int C O M (S_seen C R (xs (nI i + 1).toNatClampNeg) (xs (nI i + 2).toNatClampNeg)) hh_hI1 (fun w => k23 z (z + 168) (z + 179) (nI i + 7) w)
theorem J_1312 (xs : Nat → Int32) (hi : i + 7 ≤ L) (hL : L ≤ 3584) (k23 : Nat → Nat → Nat → Int32 → xW → xO Int32) (C : Cls w z γ) (M : MoAt w (z + 168) F ar) (O : OuL w (z + 179) v) (R : Rel γ F ar) : ∃ w', f_L_law_J1312 xs L k23 z (z + 168) (z + 179) (nI i) w = k23 z (z + 168) (z + 179) (nI i + 7) w' ∧ Inv z w' := by
  have h1 : ¬ (nI i + 1 < 0 ∨ L ≤ (nI i + 1).toNatClampNeg) := in_sc (j := 1) hi (by omega) hL
  have h2 : ¬ (nI i + 2 < 0 ∨ L ≤ (nI i + 2).toNatClampNeg) := in_sc (j := 2) hi (by omega) hL
  unfold f_L_law_J1312
  simp only [if_pos h1, if_pos h2]
  exact J_int C O M (S_seenFromTop C R (xs (nI i + 1).toNatClampNeg) (xs (nI i + 2).toNatClampNeg)) hh_hI1 (fun w => k23 z (z + 168) (z + 179) (nI i + 7) w)
theorem J_1380 (xs : Nat → Int32) (hi : i + 7 ≤ L) (hL : L ≤ 3584) (k23 : Nat → Nat → Nat → Int32 → xW → xO Int32) (C : Cls w z γ) (M : MoAt w (z + 168) F ar) (O : OuL w (z + 179) v) (R : Rel γ F ar) : ∃ w', f_L_law_J1380 xs L k23 z (z + 168) (z + 179) (nI i) w = k23 z (z + 168) (z + 179) (nI i + 7) w' ∧ Inv z w' := by
  have h1 : ¬ (nI i + 1 < 0 ∨ L ≤ (nI i + 1).toNatClampNeg) := in_sc (j := 1) hi (by omega) hL
  have h2 : ¬ (nI i + 2 < 0 ∨ L ≤ (nI i + 2).toNatClampNeg) := in_sc (j := 2) hi (by omega) hL
  unfold f_L_law_J1380
  simp only [if_pos h1, if_pos h2]
  exact J_int C O M (S_topLayer C R (xs (nI i + 1).toNatClampNeg) (xs (nI i + 2).toNatClampNeg)) hh_hI1N2 (fun w => k23 z (z + 168) (z + 179) (nI i + 7) w)
theorem J_1448 (xs : Nat → Int32) (hi : i + 7 ≤ L) (hL : L ≤ 3584) (k23 : Nat → Nat → Nat → Int32 → xW → xO Int32) (C : Cls w z γ) (M : MoAt w (z + 168) F ar) (O : OuL w (z + 179) v) (R : Rel γ F ar) : ∃ w', f_L_law_J1448 xs L k23 z (z + 168) (z + 179) (nI i) w = k23 z (z + 168) (z + 179) (nI i + 7) w' ∧ Inv z w' := by
  have h1 : ¬ (nI i + 1 < 0 ∨ L ≤ (nI i + 1).toNatClampNeg) := in_sc (j := 1) hi (by omega) hL
  have h2 : ¬ (nI i + 2 < 0 ∨ L ≤ (nI i + 2).toNatClampNeg) := in_sc (j := 2) hi (by omega) hL
  unfold f_L_law_J1448
  simp only [if_pos h1, if_pos h2]
  exact J_int C O M (S_coveringLayers C R (xs (nI i + 1).toNatClampNeg) (xs (nI i + 2).toNatClampNeg)) hh_hI1 (fun w => k23 z (z + 168) (z + 179) (nI i + 7) w)
theorem J_1516 (xs : Nat → Int32) (hi : i + 7 ≤ L) (hL : L ≤ 3584) (k23 : Nat → Nat → Nat → Int32 → xW → xO Int32) (C : Cls w z γ) (M : MoAt w (z + 168) F ar) (O : OuL w (z + 179) v) (R : Rel γ F ar) : ∃ w', f_L_law_J1516 xs L k23 z (z + 168) (z + 179) (nI i) w = k23 z (z + 168) (z + 179) (nI i + 7) w' ∧ Inv z w' := by
  have h1 : ¬ (nI i + 1 < 0 ∨ L ≤ (nI i + 1).toNatClampNeg) := in_sc (j := 1) hi (by omega) hL
  unfold f_L_law_J1516
  simp only [if_pos h1]
  exact J_int C O M (S_cellsWithTone C R (xs (nI i + 1).toNatClampNeg)) hh_hA1 (fun w => k23 z (z + 168) (z + 179) (nI i + 7) w)
theorem J_1572 (xs : Nat → Int32) (hi : i + 7 ≤ L) (hL : L ≤ 3584) (k23 : Nat → Nat → Nat → Int32 → xW → xO Int32) (C : Cls w z γ) (M : MoAt w (z + 168) F ar) (O : OuL w (z + 179) v) (R : Rel γ F ar) : ∃ w', f_L_law_J1572 xs L k23 z (z + 168) (z + 179) (nI i) w = k23 z (z + 168) (z + 179) (nI i + 7) w' ∧ Inv z w' := by
  unfold f_L_law_J1572
  exact J_pl C O M (S_commonestTone C R _) (fun w => k23 z (z + 168) (z + 179) (nI i + 7) w)
theorem J_1585 (xs : Nat → Int32) (hi : i + 7 ≤ L) (hL : L ≤ 3584) (k23 : Nat → Nat → Nat → Int32 → xW → xO Int32) (C : Cls w z γ) (M : MoAt w (z + 168) F ar) (O : OuL w (z + 179) v) (R : Rel γ F ar) : ∃ w', f_L_law_J1585 xs L k23 z (z + 168) (z + 179) (nI i) w = k23 z (z + 168) (z + 179) (nI i + 7) w' ∧ Inv z w' := by
  have h1 : ¬ (nI i + 1 < 0 ∨ L ≤ (nI i + 1).toNatClampNeg) := in_sc (j := 1) hi (by omega) hL
  have h2 : ¬ (nI i + 2 < 0 ∨ L ≤ (nI i + 2).toNatClampNeg) := in_sc (j := 2) hi (by omega) hL
  have h3 : ¬ (nI i + 3 < 0 ∨ L ≤ (nI i + 3).toNatClampNeg) := in_sc (j := 3) hi (by omega) hL
  have h4 : ¬ (nI i + 4 < 0 ∨ L ≤ (nI i + 4).toNatClampNeg) := in_sc (j := 4) hi (by omega) hL
  unfold f_L_law_J1585
  simp only [if_pos h1, if_pos h2, if_pos h3, if_pos h4]
  exact J_int C O M (S_sumOfTones C R (xs (nI i + 1).toNatClampNeg) (xs (nI i + 2).toNatClampNeg) (xs (nI i + 3).toNatClampNeg) (xs (nI i + 4).toNatClampNeg)) hh_hI1A2 (fun w => k23 z (z + 168) (z + 179) (nI i + 7) w)
theorem J_1677 (xs : Nat → Int32) (hi : i + 7 ≤ L) (hL : L ≤ 3584) (k23 : Nat → Nat → Nat → Int32 → xW → xO Int32) (C : Cls w z γ) (M : MoAt w (z + 168) F ar) (O : OuL w (z + 179) v) (R : Rel γ F ar) : ∃ w', f_L_law_J1677 xs L k23 z (z + 168) (z + 179) (nI i) w = k23 z (z + 168) (z + 179) (nI i + 7) w' ∧ Inv z w' := by
  have h1 : ¬ (nI i + 1 < 0 ∨ L ≤ (nI i + 1).toNatClampNeg) := in_sc (j := 1) hi (by omega) hL
  have h2 : ¬ (nI i + 2 < 0 ∨ L ≤ (nI i + 2).toNatClampNeg) := in_sc (j := 2) hi (by omega) hL
  have h3 : ¬ (nI i + 3 < 0 ∨ L ≤ (nI i + 3).toNatClampNeg) := in_sc (j := 3) hi (by omega) hL
  have h4 : ¬ (nI i + 4 < 0 ∨ L ≤ (nI i + 4).toNatClampNeg) := in_sc (j := 4) hi (by omega) hL
  unfold f_L_law_J1677
  simp only [if_pos h1, if_pos h2, if_pos h3, if_pos h4]
  exact J_int C O M (S_sumOfTonesByTable C R (xs (nI i + 1).toNatClampNeg) (xs (nI i + 2).toNatClampNeg) (xs (nI i + 3).toNatClampNeg) (xs (nI i + 4).toNatClampNeg)) hh_hI1A2 (fun w => k23 z (z + 168) (z + 179) (nI i + 7) w)
theorem J_1769 (xs : Nat → Int32) (hi : i + 7 ≤ L) (hL : L ≤ 3584) (k23 : Nat → Nat → Nat → Int32 → xW → xO Int32) (C : Cls w z γ) (M : MoAt w (z + 168) F ar) (O : OuL w (z + 179) v) (R : Rel γ F ar) : ∃ w', f_L_law_J1769 xs L k23 z (z + 168) (z + 179) (nI i) w = k23 z (z + 168) (z + 179) (nI i + 7) w' ∧ Inv z w' := by
  have h1 : ¬ (nI i + 1 < 0 ∨ L ≤ (nI i + 1).toNatClampNeg) := in_sc (j := 1) hi (by omega) hL
  have h2 : ¬ (nI i + 2 < 0 ∨ L ≤ (nI i + 2).toNatClampNeg) := in_sc (j := 2) hi (by omega) hL
  unfold f_L_law_J1769
  simp only [if_pos h1, if_pos h2]
  exact J_int C O M (S_areaSize C M R (xs (nI i + 1).toNatClampNeg) (xs (nI i + 2).toNatClampNeg)) hh_hI1 (fun w => k23 z (z + 168) (z + 179) (nI i + 7) w)
theorem J_1837 (xs : Nat → Int32) (hi : i + 7 ≤ L) (hL : L ≤ 3584) (k23 : Nat → Nat → Nat → Int32 → xW → xO Int32) (C : Cls w z γ) (M : MoAt w (z + 168) F ar) (O : OuL w (z + 179) v) (R : Rel γ F ar) : ∃ w', f_L_law_J1837 xs L k23 z (z + 168) (z + 179) (nI i) w = k23 z (z + 168) (z + 179) (nI i + 7) w' ∧ Inv z w' := by
  unfold f_L_law_J1837
  exact J_pl C O M (S_areaCount C M R _) (fun w => k23 z (z + 168) (z + 179) (nI i + 7) w)
theorem J_1850 (xs : Nat → Int32) (hi : i + 7 ≤ L) (hL : L ≤ 3584) (k23 : Nat → Nat → Nat → Int32 → xW → xO Int32) (C : Cls w z γ) (M : MoAt w (z + 168) F ar) (O : OuL w (z + 179) v) (R : Rel γ F ar) : ∃ w', f_L_law_J1850 xs L k23 z (z + 168) (z + 179) (nI i) w = k23 z (z + 168) (z + 179) (nI i + 7) w' ∧ Inv z w' := by
  unfold f_L_law_J1850
  exact J_pl C O M (S_areaCountByJoining C M R _) (fun w => k23 z (z + 168) (z + 179) (nI i + 7) w)
theorem J_1863 (xs : Nat → Int32) (hi : i + 7 ≤ L) (hL : L ≤ 3584) (k23 : Nat → Nat → Nat → Int32 → xW → xO Int32) (C : Cls w z γ) (M : MoAt w (z + 168) F ar) (O : OuL w (z + 179) v) (R : Rel γ F ar) : ∃ w', f_L_law_J1863 xs L k23 z (z + 168) (z + 179) (nI i) w = k23 z (z + 168) (z + 179) (nI i + 7) w' ∧ Inv z w' := by
  unfold f_L_law_J1863
  exact J_pl C O M (S_largestArea C M R _) (fun w => k23 z (z + 168) (z + 179) (nI i + 7) w)
theorem J_1876 (xs : Nat → Int32) (hi : i + 7 ≤ L) (hL : L ≤ 3584) (k23 : Nat → Nat → Nat → Int32 → xW → xO Int32) (C : Cls w z γ) (M : MoAt w (z + 168) F ar) (O : OuL w (z + 179) v) (R : Rel γ F ar) : ∃ w', f_L_law_J1876 xs L k23 z (z + 168) (z + 179) (nI i) w = k23 z (z + 168) (z + 179) (nI i + 7) w' ∧ Inv z w' := by
  unfold f_L_law_J1876
  exact J_pl C O M (S_darkestRow C R _) (fun w => k23 z (z + 168) (z + 179) (nI i + 7) w)
theorem J_1889 (xs : Nat → Int32) (hi : i + 7 ≤ L) (hL : L ≤ 3584) (k23 : Nat → Nat → Nat → Int32 → xW → xO Int32) (C : Cls w z γ) (M : MoAt w (z + 168) F ar) (O : OuL w (z + 179) v) (R : Rel γ F ar) : ∃ w', f_L_law_J1889 xs L k23 z (z + 168) (z + 179) (nI i) w = k23 z (z + 168) (z + 179) (nI i + 7) w' ∧ Inv z w' := by
  unfold f_L_law_J1889
  exact J_pl C O M (S_isMirrored C R _) (fun w => k23 z (z + 168) (z + 179) (nI i + 7) w)
theorem J_1902 (xs : Nat → Int32) (hi : i + 7 ≤ L) (hL : L ≤ 3584) (k23 : Nat → Nat → Nat → Int32 → xW → xO Int32) (C : Cls w z γ) (M : MoAt w (z + 168) F ar) (O : OuL w (z + 179) v) (R : Rel γ F ar) : ∃ w', f_L_law_J1902 xs L k23 z (z + 168) (z + 179) (nI i) w = k23 z (z + 168) (z + 179) (nI i + 7) w' ∧ Inv z w' := by
  have h1 : ¬ (nI i + 1 < 0 ∨ L ≤ (nI i + 1).toNatClampNeg) := in_sc (j := 1) hi (by omega) hL
  have h2 : ¬ (nI i + 2 < 0 ∨ L ≤ (nI i + 2).toNatClampNeg) := in_sc (j := 2) hi (by omega) hL
  unfold f_L_law_J1902
  simp only [if_pos h1, if_pos h2]
  exact J_int C O M (S_differentCells C R (xs (nI i + 1).toNatClampNeg) (xs (nI i + 2).toNatClampNeg)) hh_hI1 (fun w => k23 z (z + 168) (z + 179) (nI i + 7) w)
theorem J_1970 (xs : Nat → Int32) (hi : i + 7 ≤ L) (hL : L ≤ 3584) (k23 : Nat → Nat → Nat → Int32 → xW → xO Int32) (C : Cls w z γ) (M : MoAt w (z + 168) F ar) (O : OuL w (z + 179) v) (R : Rel γ F ar) : ∃ w', f_L_law_J1970 xs L k23 z (z + 168) (z + 179) (nI i) w = k23 z (z + 168) (z + 179) (nI i + 7) w' ∧ Inv z w' := by
  have h1 : ¬ (nI i + 1 < 0 ∨ L ≤ (nI i + 1).toNatClampNeg) := in_sc (j := 1) hi (by omega) hL
  unfold f_L_law_J1970
  simp only [if_pos h1]
  exact J_int C O M (S_layerByPaint C R (xs (nI i + 1).toNatClampNeg)) hh_hN1 (fun w => k23 z (z + 168) (z + 179) (nI i + 7) w)
theorem J_2026 (xs : Nat → Int32) (hi : i + 7 ≤ L) (hL : L ≤ 3584) (k23 : Nat → Nat → Nat → Int32 → xW → xO Int32) (C : Cls w z γ) (M : MoAt w (z + 168) F ar) (O : OuL w (z + 179) v) (R : Rel γ F ar) : ∃ w', f_L_law_J2026 xs L k23 z (z + 168) (z + 179) (nI i) w = k23 z (z + 168) (z + 179) (nI i + 7) w' ∧ Inv z w' := by
  unfold f_L_law_J2026
  exact J_pl C O M (S_paintedCells C R _) (fun w => k23 z (z + 168) (z + 179) (nI i + 7) w)
theorem J_2039 (xs : Nat → Int32) (hi : i + 7 ≤ L) (hL : L ≤ 3584) (k23 : Nat → Nat → Nat → Int32 → xW → xO Int32) (C : Cls w z γ) (M : MoAt w (z + 168) F ar) (O : OuL w (z + 179) v) (R : Rel γ F ar) : ∃ w', f_L_law_J2039 xs L k23 z (z + 168) (z + 179) (nI i) w = k23 z (z + 168) (z + 179) (nI i + 7) w' ∧ Inv z w' := by
  unfold f_L_law_J2039
  exact J_pl C O M (S_erasedCells C R _) (fun w => k23 z (z + 168) (z + 179) (nI i + 7) w)
theorem J_2052 (xs : Nat → Int32) (hi : i + 7 ≤ L) (hL : L ≤ 3584) (k23 : Nat → Nat → Nat → Int32 → xW → xO Int32) (C : Cls w z γ) (M : MoAt w (z + 168) F ar) (O : OuL w (z + 179) v) (R : Rel γ F ar) : ∃ w', f_L_law_J2052 xs L k23 z (z + 168) (z + 179) (nI i) w = k23 z (z + 168) (z + 179) (nI i + 7) w' ∧ Inv z w' := by
  unfold f_L_law_J2052
  exact J_mean C M O R (fun w => k23 z (z + 168) (z + 179) (nI i + 7) w)
theorem J_2093 (xs : Nat → Int32) (hi : i + 7 ≤ L) (hL : L ≤ 3584) (k23 : Nat → Nat → Nat → Int32 → xW → xO Int32) (C : Cls w z γ) (M : MoAt w (z + 168) F ar) (O : OuL w (z + 179) v) (R : Rel γ F ar) : ∃ w', f_L_law_J2093 xs L k23 z (z + 168) (z + 179) (nI i) w = k23 z (z + 168) (z + 179) (nI i + 7) w' ∧ Inv z w' := by
  unfold f_L_law_J2093
  exact J_cov C M O R (fun w => k23 z (z + 168) (z + 179) (nI i + 7) w)
theorem J_2136 (xs : Nat → Int32) (hi : i + 7 ≤ L) (hL : L ≤ 3584) (k23 : Nat → Nat → Nat → Int32 → xW → xO Int32) (C : Cls w z γ) (M : MoAt w (z + 168) F ar) (O : OuL w (z + 179) v) (R : Rel γ F ar) : ∃ w', f_L_law_J2136 xs L k23 z (z + 168) (z + 179) (nI i) w = k23 z (z + 168) (z + 179) (nI i + 7) w' ∧ Inv z w' := by
  unfold f_L_law_J2136
  exact J_pl C O M (S_isConsistent C M R _) (fun w => k23 z (z + 168) (z + 179) (nI i + 7) w)
theorem J_2149 (xs : Nat → Int32) (hi : i + 7 ≤ L) (hL : L ≤ 3584) (k23 : Nat → Nat → Nat → Int32 → xW → xO Int32) (C : Cls w z γ) (M : MoAt w (z + 168) F ar) (O : OuL w (z + 179) v) (R : Rel γ F ar) : ∃ w', f_L_law_J2149 xs L k23 z (z + 168) (z + 179) (nI i) w = k23 z (z + 168) (z + 179) (nI i + 7) w' ∧ Inv z w' := by
  have h1 : ¬ (nI i + 1 < 0 ∨ L ≤ (nI i + 1).toNatClampNeg) := in_sc (j := 1) hi (by omega) hL
  unfold f_L_law_J2149
  simp only [if_pos h1]
  exact J_int C O M (S_feed C R (x := x_c (xs (nI i + 1).toNatClampNeg)) (x_cc _)) hh_hS1 (fun w => k23 z (z + 168) (z + 179) (nI i + 7) w)
theorem J_2207 (xs : Nat → Int32) (hi : i + 7 ≤ L) (hL : L ≤ 3584) (k23 : Nat → Nat → Nat → Int32 → xW → xO Int32) (C : Cls w z γ) (M : MoAt w (z + 168) F ar) (O : OuL w (z + 179) v) (R : Rel γ F ar) : ∃ w', f_L_law_J2207 xs L k23 z (z + 168) (z + 179) (nI i) w = k23 z (z + 168) (z + 179) (nI i + 7) w' ∧ Inv z w' := by
  unfold f_L_law_J2207
  exact J_int C O M (S_runCommands C R) hh_hA1U2 (fun w => k23 z (z + 168) (z + 179) (nI i + 7) w)
theorem J_2251 (xs : Nat → Int32) (hi : i + 7 ≤ L) (hL : L ≤ 3584) (k23 : Nat → Nat → Nat → Int32 → xW → xO Int32) (C : Cls w z γ) (M : MoAt w (z + 168) F ar) (O : OuL w (z + 179) v) (R : Rel γ F ar) : ∃ w', f_L_law_J2251 xs L k23 z (z + 168) (z + 179) (nI i) w = k23 z (z + 168) (z + 179) (nI i + 7) w' ∧ Inv z w' := by
  unfold f_L_law_J2251
  exact J_int C O M (S_errorPosition C R) hh_hN1 (fun w => k23 z (z + 168) (z + 179) (nI i + 7) w)
theorem J_2295 (xs : Nat → Int32) (hi : i + 7 ≤ L) (hL : L ≤ 3584) (k23 : Nat → Nat → Nat → Int32 → xW → xO Int32) (C : Cls w z γ) (M : MoAt w (z + 168) F ar) (O : OuL w (z + 179) v) (R : Rel γ F ar) : ∃ w', f_L_law_J2295 xs L k23 z (z + 168) (z + 179) (nI i) w = k23 z (z + 168) (z + 179) (nI i + 7) w' ∧ Inv z w' := by
  unfold f_L_law_J2295
  exact J_int C O M (S_failedCommand C R) hh_hN1 (fun w => k23 z (z + 168) (z + 179) (nI i + 7) w)
theorem J_2339 (xs : Nat → Int32) (hi : i + 7 ≤ L) (hL : L ≤ 3584) (k23 : Nat → Nat → Nat → Int32 → xW → xO Int32) (C : Cls w z γ) (M : MoAt w (z + 168) F ar) (O : OuL w (z + 179) v) (R : Rel γ F ar) : ∃ w', f_L_law_J2339 xs L k23 z (z + 168) (z + 179) (nI i) w = k23 z (z + 168) (z + 179) (nI i + 7) w' ∧ Inv z w' := by
  have h1 : ¬ (nI i + 1 < 0 ∨ L ≤ (nI i + 1).toNatClampNeg) := in_sc (j := 1) hi (by omega) hL
  unfold f_L_law_J2339
  simp only [if_pos h1]
  have e : f_L_writeRow (some z) (xs (nI i + 1).toNatClampNeg) (some (z + 179)) w = LO (f_X6_writeRow z (xs (nI i + 1).toNatClampNeg) w) (fun E w2 => if E = IOB then (x_ret 1 w2) else none) z (z + 179) w := by
    unfold f_L_writeRow LO
    rw [oe, oe]
    rfl
  rw [e]
  exact J_int C O M (S_writeRow C R (xs (nI i + 1).toNatClampNeg)) hh_hI1 (fun w => k23 z (z + 168) (z + 179) (nI i + 7) w)
theorem J_2395 (xs : Nat → Int32) (hi : i + 7 ≤ L) (hL : L ≤ 3584) (k23 : Nat → Nat → Nat → Int32 → xW → xO Int32) (C : Cls w z γ) (M : MoAt w (z + 168) F ar) (O : OuL w (z + 179) v) (R : Rel γ F ar) : ∃ w', f_L_law_J2395 xs L k23 z (z + 168) (z + 179) (nI i) w = k23 z (z + 168) (z + 179) (nI i + 7) w' ∧ Inv z w' := by
  unfold f_L_law_J2395
  exact J_pl C O M (S_writeLayers C R _) (fun w => k23 z (z + 168) (z + 179) (nI i + 7) w)
theorem J_2408 (xs : Nat → Int32) (hi : i + 7 ≤ L) (hL : L ≤ 3584) (k23 : Nat → Nat → Nat → Int32 → xW → xO Int32) (C : Cls w z γ) (M : MoAt w (z + 168) F ar) (O : OuL w (z + 179) v) (R : Rel γ F ar) : ∃ w', f_L_law_J2408 xs L k23 z (z + 168) (z + 179) (nI i) w = k23 z (z + 168) (z + 179) (nI i + 7) w' ∧ Inv z w' := by
  have h1 : ¬ (nI i + 1 < 0 ∨ L ≤ (nI i + 1).toNatClampNeg) := in_sc (j := 1) hi (by omega) hL
  unfold f_L_law_J2408
  simp only [if_pos h1]
  exact J_int C O M (S_outputChar C R (xs (nI i + 1).toNatClampNeg)) hh_hI1 (fun w => k23 z (z + 168) (z + 179) (nI i + 7) w)
theorem J_2464 (xs : Nat → Int32) (hi : i + 7 ≤ L) (hL : L ≤ 3584) (k23 : Nat → Nat → Nat → Int32 → xW → xO Int32) (C : Cls w z γ) (M : MoAt w (z + 168) F ar) (O : OuL w (z + 179) v) (R : Rel γ F ar) : ∃ w', f_L_law_J2464 xs L k23 z (z + 168) (z + 179) (nI i) w = k23 z (z + 168) (z + 179) (nI i + 7) w' ∧ Inv z w' := by
  unfold f_L_law_J2464
  exact J_pl C O M (S_undoCount C R _) (fun w => k23 z (z + 168) (z + 179) (nI i + 7) w)
theorem J_2477 (xs : Nat → Int32) (hi : i + 7 ≤ L) (hL : L ≤ 3584) (k23 : Nat → Nat → Nat → Int32 → xW → xO Int32) (C : Cls w z γ) (M : MoAt w (z + 168) F ar) (O : OuL w (z + 179) v) (R : Rel γ F ar) : ∃ w', f_L_law_J2477 xs L k23 z (z + 168) (z + 179) (nI i) w = k23 z (z + 168) (z + 179) (nI i + 7) w' ∧ Inv z w' := by
  unfold f_L_law_J2477
  exact J_int C O M (S_undo C R) hh_hS1 (fun w => k23 z (z + 168) (z + 179) (nI i + 7) w)
theorem J_2521 (xs : Nat → Int32) (hi : i + 7 ≤ L) (hL : L ≤ 3584) (k23 : Nat → Nat → Nat → Int32 → xW → xO Int32) (C : Cls w z γ) (M : MoAt w (z + 168) F ar) (O : OuL w (z + 179) v) (R : Rel γ F ar) : ∃ w', f_L_law_J2521 xs L k23 z (z + 168) (z + 179) (nI i) w = k23 z (z + 168) (z + 179) (nI i + 7) w' ∧ Inv z w' := by
  unfold f_L_law_J2521
  exact J_pl C O M (S_save C R _) (fun w => k23 z (z + 168) (z + 179) (nI i + 7) w)
theorem J_2534 (xs : Nat → Int32) (hi : i + 7 ≤ L) (hL : L ≤ 3584) (k23 : Nat → Nat → Nat → Int32 → xW → xO Int32) (C : Cls w z γ) (M : MoAt w (z + 168) F ar) (O : OuL w (z + 179) v) (R : Rel γ F ar) : ∃ w', f_L_law_J2534 xs L k23 z (z + 168) (z + 179) (nI i) w = k23 z (z + 168) (z + 179) (nI i + 7) w' ∧ Inv z w' := by
  unfold f_L_law_J2534
  exact J_int C O M (S_restore C R) hh_hS1 (fun w => k23 z (z + 168) (z + 179) (nI i + 7) w)
end JC
