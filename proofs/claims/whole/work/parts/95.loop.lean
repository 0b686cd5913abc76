/-! ===== the law's loop ===== -/
theorem ite_P {α : Sort _} {c : Prop} [Decidable c] {a b : α} {P : α → Prop} (h1 : c → P a) (h2 : ¬ c → P b) : P (if c then a else b) := by
  by_cases h : c
  · rw [if_pos h]; exact h1 h
  · rw [if_neg h]; exact h2 h
theorem lim_L {L i : Nat} (hL : L ≤ 3584) (hi : i < 2 ^ 31) : (Int32.ofNat L - 7 < nI i) = (L < i + 7) := by
  apply propext
  by_cases h7 : 7 ≤ L
  · rw [show Int32.ofNat L - 7 = nI (L - 7) from nI_sub (b := 7) h7, nI_ltI (by omega) hi]
    omega
  · have h : L = 0 ∨ L = 1 ∨ L = 2 ∨ L = 3 ∨ L = 4 ∨ L = 5 ∨ L = 6 := by omega
    have hn : (Int32.ofNat L - 7).toInt < 0 := by rcases h with rfl | rfl | rfl | rfl | rfl | rfl | rfl <;> decide
    have hp := nI_toInt hi
    rw [Int32.lt_iff_toInt_lt, hp]
    constructor
    · intro _; omega
    · intro _; omega
theorem law_loop (xs : Nat → Int32) {L z : Nat} (hL : L ≤ 3584) : ∀ (n i : Nat) (w : xW), Inv z w → i ≤ L → L < i + 7 * n → ∃ wF, f_L_law_L23 xs L n z (z + 168) (z + 179) (nI i) w = some (Sum.inl (1 : Int32), wF) := by
  intro n
  induction n with
  | zero => intro i w _ h1 h2; exact absurd h2 (by omega)
  | succ n ih =>
    intro i w hI h1 h2
    obtain ⟨γ, F, ar, v, C, M, O, R⟩ := id hI
    simp only [f_L_law_L23, lim_L hL (show i < 2 ^ 31 by omega)]
    by_cases hend : L < i + 7
    · rw [if_pos hend]
      exact ⟨w, rfl⟩
    · have hi : i + 7 ≤ L := by omega
      rw [if_neg hend, if_pos (show ¬ (nI i < 0 ∨ L ≤ (nI i).toNatClampNeg) from nI_in (by omega) (by omega))]
      have step : ∀ X : xO Int32, (∃ w', X = (fun x1 x2 x3 x4 w => f_L_law_L23 xs L n x1 x2 x3 x4 w) z (z + 168) (z + 179) (nI i + 7) w' ∧ Inv z w') → ∃ wF, X = some (Sum.inl (1 : Int32), wF) := fun X ⟨w', e, h⟩ => by
        obtain ⟨wF, e2⟩ := ih (i + 7) w' h hi (by omega)
        refine ⟨wF, e.trans ?_⟩
        show f_L_law_L23 xs L n z (z + 168) (z + 179) (nI i + 7) w' = _
        rw [show nI i + 7 = nI (i + 7) from nI_add i 7]
        exact e2
      refine ite_P (P := fun X => ∃ wF, X = some (Sum.inl (1 : Int32), wF)) (fun _ => step _ (J_248 xs hi hL _ C M O R)) (fun _ => ?_)
      refine ite_P (P := fun X => ∃ wF, X = some (Sum.inl (1 : Int32), wF)) (fun _ => step _ (J_306 xs hi hL _ C M O R)) (fun _ => ?_)
      refine ite_P (P := fun X => ∃ wF, X = some (Sum.inl (1 : Int32), wF)) (fun _ => step _ (J_362 xs hi hL _ C M O R)) (fun _ => ?_)
      refine ite_P (P := fun X => ∃ wF, X = some (Sum.inl (1 : Int32), wF)) (fun _ => step _ (J_480 xs hi hL _ C M O R)) (fun _ => ?_)
      refine ite_P (P := fun X => ∃ wF, X = some (Sum.inl (1 : Int32), wF)) (fun _ => step _ (J_572 xs hi hL _ C M O R)) (fun _ => ?_)
      refine ite_P (P := fun X => ∃ wF, X = some (Sum.inl (1 : Int32), wF)) (fun _ => step _ (J_628 xs hi hL _ C M O R)) (fun _ => ?_)
      refine ite_P (P := fun X => ∃ wF, X = some (Sum.inl (1 : Int32), wF)) (fun _ => step _ (J_684 xs hi hL _ C M O R)) (fun _ => ?_)
      refine ite_P (P := fun X => ∃ wF, X = some (Sum.inl (1 : Int32), wF)) (fun _ => step _ (J_752 xs hi hL _ C M O R)) (fun _ => ?_)
      refine ite_P (P := fun X => ∃ wF, X = some (Sum.inl (1 : Int32), wF)) (fun _ => step _ (J_808 xs hi hL _ C M O R)) (fun _ => ?_)
      refine ite_P (P := fun X => ∃ wF, X = some (Sum.inl (1 : Int32), wF)) (fun _ => step _ (J_876 xs hi hL _ C M O R)) (fun _ => ?_)
      refine ite_P (P := fun X => ∃ wF, X = some (Sum.inl (1 : Int32), wF)) (fun _ => step _ (J_889 xs hi hL _ C M O R)) (fun _ => ?_)
      refine ite_P (P := fun X => ∃ wF, X = some (Sum.inl (1 : Int32), wF)) (fun _ => step _ (J_945 xs hi hL _ C M O R)) (fun _ => ?_)
      refine ite_P (P := fun X => ∃ wF, X = some (Sum.inl (1 : Int32), wF)) (fun _ => step _ (J_1008 xs hi hL _ C M O R)) (fun _ => ?_)
      refine ite_P (P := fun X => ∃ wF, X = some (Sum.inl (1 : Int32), wF)) (fun _ => step _ (J_1095 xs hi hL _ C M O R)) (fun _ => ?_)
      refine ite_P (P := fun X => ∃ wF, X = some (Sum.inl (1 : Int32), wF)) (fun _ => step _ (J_1175 xs hi hL _ C M O R)) (fun _ => ?_)
      refine ite_P (P := fun X => ∃ wF, X = some (Sum.inl (1 : Int32), wF)) (fun _ => step _ (J_1231 xs hi hL _ C M O R)) (fun _ => ?_)
      refine ite_P (P := fun X => ∃ wF, X = some (Sum.inl (1 : Int32), wF)) (fun _ => step _ (J_1244 xs hi hL _ C M O R)) (fun _ => ?_)
      refine ite_P (P := fun X => ∃ wF, X = some (Sum.inl (1 : Int32), wF)) (fun _ => step _ (J_1312 xs hi hL _ C M O R)) (fun _ => ?_)
      refine ite_P (P := fun X => ∃ wF, X = some (Sum.inl (1 : Int32), wF)) (fun _ => step _ (J_1380 xs hi hL _ C M O R)) (fun _ => ?_)
      refine ite_P (P := fun X => ∃ wF, X = some (Sum.inl (1 : Int32), wF)) (fun _ => step _ (J_1448 xs hi hL _ C M O R)) (fun _ => ?_)
      refine ite_P (P := fun X => ∃ wF, X = some (Sum.inl (1 : Int32), wF)) (fun _ => step _ (J_1516 xs hi hL _ C M O R)) (fun _ => ?_)
      refine ite_P (P := fun X => ∃ wF, X = some (Sum.inl (1 : Int32), wF)) (fun _ => step _ (J_1572 xs hi hL _ C M O R)) (fun _ => ?_)
      refine ite_P (P := fun X => ∃ wF, X = some (Sum.inl (1 : Int32), wF)) (fun _ => step _ (J_1585 xs hi hL _ C M O R)) (fun _ => ?_)
      refine ite_P (P := fun X => ∃ wF, X = some (Sum.inl (1 : Int32), wF)) (fun _ => step _ (J_1677 xs hi hL _ C M O R)) (fun _ => ?_)
      refine ite_P (P := fun X => ∃ wF, X = some (Sum.inl (1 : Int32), wF)) (fun _ => step _ (J_1769 xs hi hL _ C M O R)) (fun _ => ?_)
      refine ite_P (P := fun X => ∃ wF, X = some (Sum.inl (1 : Int32), wF)) (fun _ => step _ (J_1837 xs hi hL _ C M O R)) (fun _ => ?_)
      refine ite_P (P := fun X => ∃ wF, X = some (Sum.inl (1 : Int32), wF)) (fun _ => step _ (J_1850 xs hi hL _ C M O R)) (fun _ => ?_)
      refine ite_P (P := fun X => ∃ wF, X = some (Sum.inl (1 : Int32), wF)) (fun _ => step _ (J_1863 xs hi hL _ C M O R)) (fun _ => ?_)
      refine ite_P (P := fun X => ∃ wF, X = some (Sum.inl (1 : Int32), wF)) (fun _ => step _ (J_1876 xs hi hL _ C M O R)) (fun _ => ?_)
      refine ite_P (P := fun X => ∃ wF, X = some (Sum.inl (1 : Int32), wF)) (fun _ => step _ (J_1889 xs hi hL _ C M O R)) (fun _ => ?_)
      refine ite_P (P := fun X => ∃ wF, X = some (Sum.inl (1 : Int32), wF)) (fun _ => step _ (J_1902 xs hi hL _ C M O R)) (fun _ => ?_)
      refine ite_P (P := fun X => ∃ wF, X = some (Sum.inl (1 : Int32), wF)) (fun _ => step _ (J_1970 xs hi hL _ C M O R)) (fun _ => ?_)
      refine ite_P (P := fun X => ∃ wF, X = some (Sum.inl (1 : Int32), wF)) (fun _ => step _ (J_2026 xs hi hL _ C M O R)) (fun _ => ?_)
      refine ite_P (P := fun X => ∃ wF, X = some (Sum.inl (1 : Int32), wF)) (fun _ => step _ (J_2039 xs hi hL _ C M O R)) (fun _ => ?_)
      refine ite_P (P := fun X => ∃ wF, X = some (Sum.inl (1 : Int32), wF)) (fun _ => step _ (J_2052 xs hi hL _ C M O R)) (fun _ => ?_)
      refine ite_P (P := fun X => ∃ wF, X = some (Sum.inl (1 : Int32), wF)) (fun _ => step _ (J_2093 xs hi hL _ C M O R)) (fun _ => ?_)
      refine ite_P (P := fun X => ∃ wF, X = some (Sum.inl (1 : Int32), wF)) (fun _ => step _ (J_2136 xs hi hL _ C M O R)) (fun _ => ?_)
      refine ite_P (P := fun X => ∃ wF, X = some (Sum.inl (1 : Int32), wF)) (fun _ => step _ (J_2149 xs hi hL _ C M O R)) (fun _ => ?_)
      refine ite_P (P := fun X => ∃ wF, X = some (Sum.inl (1 : Int32), wF)) (fun _ => step _ (J_2207 xs hi hL _ C M O R)) (fun _ => ?_)
      refine ite_P (P := fun X => ∃ wF, X = some (Sum.inl (1 : Int32), wF)) (fun _ => step _ (J_2251 xs hi hL _ C M O R)) (fun _ => ?_)
      refine ite_P (P := fun X => ∃ wF, X = some (Sum.inl (1 : Int32), wF)) (fun _ => step _ (J_2295 xs hi hL _ C M O R)) (fun _ => ?_)
      refine ite_P (P := fun X => ∃ wF, X = some (Sum.inl (1 : Int32), wF)) (fun _ => step _ (J_2339 xs hi hL _ C M O R)) (fun _ => ?_)
      refine ite_P (P := fun X => ∃ wF, X = some (Sum.inl (1 : Int32), wF)) (fun _ => step _ (J_2395 xs hi hL _ C M O R)) (fun _ => ?_)
      refine ite_P (P := fun X => ∃ wF, X = some (Sum.inl (1 : Int32), wF)) (fun _ => step _ (J_2408 xs hi hL _ C M O R)) (fun _ => ?_)
      refine ite_P (P := fun X => ∃ wF, X = some (Sum.inl (1 : Int32), wF)) (fun _ => step _ (J_2464 xs hi hL _ C M O R)) (fun _ => ?_)
      refine ite_P (P := fun X => ∃ wF, X = some (Sum.inl (1 : Int32), wF)) (fun _ => step _ (J_2477 xs hi hL _ C M O R)) (fun _ => ?_)
      refine ite_P (P := fun X => ∃ wF, X = some (Sum.inl (1 : Int32), wF)) (fun _ => step _ (J_2521 xs hi hL _ C M O R)) (fun _ => ?_)
      refine ite_P (P := fun X => ∃ wF, X = some (Sum.inl (1 : Int32), wF)) (fun _ => step _ (J_2534 xs hi hL _ C M O R)) (fun _ => ?_)
      exact step _ ⟨w, rfl, hI⟩
