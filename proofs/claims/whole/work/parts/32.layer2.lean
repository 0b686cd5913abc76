/-! ===== a layer's methods over rectangles, circles, shadows ===== -/
theorem nI_mul (a b : Nat) : nI a * nI b = nI (a * b) := (Int32.ofNat_mul a b).symm
/-- is there such a cell -/
def isC (x y : Int32) : Bool := decide (¬ x < 0 ∧ ¬ 8 ≤ x ∧ ¬ y < 0 ∧ ¬ 6 ≤ y)
theorem X6_isCell (x y : Int32) (w : xW) : f_X6_isCell x y w = x_ret (if isC x y = true then 1 else 0) w := by
  unfold f_X6_isCell isC
  by_cases h1 : x < 0
  · simp [h1]
  · by_cases h2 : 8 ≤ x
    · simp [h1, h2]
    · by_cases h3 : y < 0
      · simp [h1, h2, h3]
      · by_cases h4 : 6 ≤ y
        · simp [h1, h2, h3, h4]
        · simp [h1, h2, h3, h4]
theorem isC_of {x y : Int32} (h : isC x y = true) : ∃ i j : Nat, i < 8 ∧ j < 6 ∧ x = nI i ∧ y = nI j := by
  unfold isC at h
  obtain ⟨h1, h2, h3, h4⟩ := of_decide_eq_true h
  obtain ⟨i, hi, rfl⟩ := nI_of h1
  obtain ⟨j, hj, rfl⟩ := nI_of h3
  refine ⟨i, j, ?_, ?_, rfl, rfl⟩
  · exact Nat.lt_of_not_le (fun hc => h2 (nI_le (a := 8) hc hi))
  · exact Nat.lt_of_not_le (fun hc => h4 (nI_le (a := 6) hc hj))
theorem isC_nI {i j : Nat} (hi : i < 8) (hj : j < 6) : isC (nI i) (nI j) = true := by
  unfold isC
  exact decide_eq_true ⟨nI_pos (by omega), nI_ge (b := 8) hi (by omega), nI_pos (by omega), nI_ge (b := 6) hj (by omega)⟩
theorem cell_nI (i j : Nat) : nI j * 8 + nI i = nI (8 * j + i) := by
  rw [show (8 : Int32) = nI 8 from rfl, nI_mul, nI_add, Nat.mul_comm]
theorem isC_cell {x y : Int32} (h : isC x y = true) : ∃ k, k < 48 ∧ y * 8 + x = nI k := by
  obtain ⟨i, j, hi, hj, rfl, rfl⟩ := isC_of h
  exact ⟨8 * j + i, by omega, cell_nI i j⟩
theorem X6_cellNumber (x y : Int32) (w : xW) : f_X6_cellNumber x y w = x_ret (y * 8 + x) w := rfl
/-- a row of a rectangle, a rectangle -/
def rowF (l n y : Nat) (x : Int32) (u : Nat → Int32) : Nat → Int32 := (List.range' l n).foldl (fun u c => upd u (8 * y + c) x) u
def rectF (l n up m : Nat) (x : Int32) (u : Nat → Int32) : Nat → Int32 := (List.range' up m).foldl (fun u y => rowF l n y x u) u
section X3r
variable {w : xW} {a b : Nat} {md vi : Int32} {t : Nat → Int32} {md' vi' : Int32} {t' : Nat → Int32}
theorem X3_fill_in (h : LyAt w a md vi t) {l r lo y : Nat} (hr : r < 8) (hy : y < 6) (x B : Int32) (K : Nat → Int32 → Int32 → Int32 → Int32 → Int32 → Int32 → xW → xO Int32) : ∀ (d k n : Nat) (u : Nat → Int32), k + d = r + 1 → d < n →
    f_X3_fillRectangle_L19 K n a (nI l) (nI r) (nI lo) x B (nI y) (nI k) (wT w a u) = K a (nI l) (nI r) (nI lo) x B (nI (y + 1)) (wT w a (rowF k d y x u)) := by
  intro d
  induction d with
  | zero =>
    intro k n u hk hn
    obtain ⟨n, rfl⟩ : ∃ m, n = m + 1 := ⟨n - 1, by omega⟩
    simp only [f_X3_fillRectangle_L19]
    rw [if_pos (nI_lt (by omega) (by omega)), ← nI_succ]
    rfl
  | succ d ih =>
    intro k n u hk hn
    obtain ⟨n, rfl⟩ : ∃ m, n = m + 1 := ⟨n - 1, by omega⟩
    simp only [f_X3_fillRectangle_L19, X6_cellNumber, x_br, cell_nI, (h.wT u).o, if_true, X3_setTone (h.wT u) (show 8 * y + k < 48 by omega)]
    rw [if_neg (nI_nlt (by omega) (by omega)), ← nI_succ k]
    show f_X3_fillRectangle_L19 K n a (nI l) (nI r) (nI lo) x B (nI y) (nI (k + 1)) (wT (wT w a u) a (upd u (8 * y + k) x)) = _
    rw [wT_wT, ih _ _ _ (by omega) (by omega)]
    rfl
theorem X3_fill_out (h : LyAt w a md vi t) {l r lo : Nat} (hl : l ≤ r) (hr : r < 8) (hlo : lo < 6) (x B : Int32) : ∀ (d k n : Nat) (u : Nat → Int32), k + d = lo + 1 → d < n →
    f_X3_fillRectangle_L9 n a (nI l) (nI r) (nI lo) x B (nI k) (wT w a u) = x_ret (nI (cnt 48 fun c => rectF l (r + 1 - l) k d x u c != -1) - B) (wT w a (rectF l (r + 1 - l) k d x u)) := by
  intro d
  induction d with
  | zero =>
    intro k n u hk hn
    obtain ⟨n, rfl⟩ : ∃ m, n = m + 1 := ⟨n - 1, by omega⟩
    simp only [f_X3_fillRectangle_L9, (h.wT u).o, if_true, X3_countTones (h.wT u), x_br]
    rw [if_pos (nI_lt (by omega) (by omega))]
    rfl
  | succ d ih =>
    intro k n u hk hn
    obtain ⟨n, rfl⟩ : ∃ m, n = m + 1 := ⟨n - 1, by omega⟩
    simp only [f_X3_fillRectangle_L9]
    rw [if_neg (nI_nlt (by omega) (by omega)), X3_fill_in h hr (by omega) x B _ (r + 1 - l) l xfuel u (by omega) (by unfold xfuel; omega), ih _ _ _ (by omega) (by omega)]
    rfl
theorem X3_fillRectangle (h : LyAt w a md vi t) {l up r lo : Nat} (hl : l ≤ r) (hr : r < 8) (hu : up ≤ lo) (hlo : lo < 6) (x : Int32) :
    f_X3_fillRectangle a (nI l) (nI up) (nI r) (nI lo) x w = x_ret (nI (cnt 48 fun c => rectF l (r + 1 - l) up (lo + 1 - up) x t c != -1) - nI (cnt 48 fun c => t c != -1)) (wT w a (rectF l (r + 1 - l) up (lo + 1 - up) x t)) := by
  have h1 := X3_fill_out h hl hr hlo x (nI (cnt 48 fun c => t c != -1)) (lo + 1 - up) up xfuel t (by omega) (by unfold xfuel; omega)
  rw [show wT w a t = w from xset_self h.2] at h1
  simp only [f_X3_fillRectangle, h.o, if_true, X3_countTones h, x_br, h1]
/-- is the cell in the circle -/
def inCi (cx cy r : Int32) (c : Nat) : Bool := !decide (r * r < (((nI c - nI c / 8 * 8) - cx) * ((nI c - nI c / 8 * 8) - cx)) + (((nI c / 8) - cy) * ((nI c / 8) - cy)))
theorem X3_clear_L (h : LyAt w a md vi t) (cx cy r B : Int32) : ∀ (d k n : Nat) (u : Nat → Int32), k + d = 48 → d < n →
    f_X3_clearCircle_L9 n a cx cy r B (nI k) (wT w a u) = x_ret (B - nI (cnt 48 fun c => ((List.range' k d).foldl (fun u c => if inCi cx cy r c = true then upd u c (-1) else u) u) c != -1)) (wT w a ((List.range' k d).foldl (fun u c => if inCi cx cy r c = true then upd u c (-1) else u) u)) := by
  intro d
  induction d with
  | zero =>
    intro k n u hk hn
    obtain ⟨n, rfl⟩ : ∃ m, n = m + 1 := ⟨n - 1, by omega⟩
    simp only [f_X3_clearCircle_L9, (h.wT u).g2, (h.wT u).len, (h.wT u).o, if_true, X3_countTones (h.wT u), x_br, ob, oe]
    rw [if_pos (nI_le (by omega) (by omega))]
    rfl
  | succ d ih =>
    intro k n u hk hn
    obtain ⟨n, rfl⟩ : ∃ m, n = m + 1 := ⟨n - 1, by omega⟩
    simp only [f_X3_clearCircle_L9, (h.wT u).g2, (h.wT u).len, ob, oe, (h.wT u).st (show k < 48 by omega)]
    rw [if_neg (nI_ge (by omega) (by omega)), ← nI_succ k, List.range'_succ, List.foldl_cons]
    by_cases hc : r * r < (((nI k - nI k / 8 * 8) - cx) * ((nI k - nI k / 8 * 8) - cx)) + (((nI k / 8) - cy) * ((nI k / 8) - cy))
    · rw [if_pos hc, ih _ _ _ (by omega) (by omega), if_neg (show ¬ inCi cx cy r k = true by simp [inCi, hc])]
    · rw [if_neg hc, if_pos (show inCi cx cy r k = true by simp [inCi, hc])]
      show f_X3_clearCircle_L9 n a cx cy r B (nI (k + 1)) (wT (wT w a u) a (upd u k (-1))) = _
      rw [wT_wT, ih _ _ _ (by omega) (by omega)]
theorem X3_clearCircle (h : LyAt w a md vi t) (cx cy r : Int32) :
    f_X3_clearCircle a cx cy r w = x_ret (nI (cnt 48 fun c => t c != -1) - nI (cnt 48 fun c => (if c < 48 ∧ inCi cx cy r c = true then -1 else t c) != -1)) (wT w a (fun c => if c < 48 ∧ inCi cx cy r c = true then -1 else t c)) := by
  have h1 := X3_clear_L h cx cy r (nI (cnt 48 fun c => t c != -1)) 48 0 xfuel t (by omega) (by unfold xfuel; omega)
  rw [show wT w a t = w from xset_self h.2, fo_R, fo_upd (fun c => inCi cx cy r c) (fun _ => -1) t 48] at h1
  simp only [f_X3_clearCircle, h.o, if_true, X3_countTones h, x_br]
  exact h1
/-- the shadow of a cell -/
def shX (s : Int32) (c : Nat) : Int32 := (nI c - nI c / 8 * 8) + s
def shY (c : Nat) : Int32 := nI c / 8 + 1
def shF (t' : Nat → Int32) (s : Int32) (u : Nat → Int32) (c : Nat) : Nat → Int32 := if (t' c != -1 && isC (shX s c) (shY c)) = true then upd u (shY c * 8 + shX s c).toNatClampNeg 8 else u
theorem X3_shadow_L (h : LyAt w a md vi t) (h' : LyAt w b md' vi' t') (hba : b ≠ a + 1) (hab : b ≠ a) (s : Int32) : ∀ (d k n : Nat) (u : Nat → Int32), k + d = 48 → d < n →
    f_X3_takeShadowOf_L2 n a (some b) s (nI k) (wT w a u) = x_ret () (wT w a ((List.range' k d).foldl (shF t' s) u)) := by
  intro d
  induction d with
  | zero =>
    intro k n u hk hn
    obtain ⟨n, rfl⟩ : ∃ m, n = m + 1 := ⟨n - 1, by omega⟩
    simp only [f_X3_takeShadowOf_L2]
    rw [if_pos (show (48 : Int32) ≤ nI k from nI_le (a := 48) (by omega) (by omega))]
    rfl
  | succ d ih =>
    intro k n u hk hn
    obtain ⟨n, rfl⟩ : ∃ m, n = m + 1 := ⟨n - 1, by omega⟩
    have h2 := h'.wT' u hba hab
    simp only [f_X3_takeShadowOf_L2, oe, h2.o, if_true, X3_toneAt h2 (show k < 48 by omega), x_br, X6_isCell, X6_cellNumber]
    rw [if_neg (show ¬ (48 : Int32) ≤ nI k from nI_ge (b := 48) (by omega) (by omega)), ← nI_succ k, List.range'_succ, List.foldl_cons]
    by_cases hc : t' k = -1
    · rw [if_pos hc, ih _ _ _ (by omega) (by omega)]
      rw [show shF t' s u k = u by simp [shF, hc]]
    · rw [if_neg hc]
      by_cases hd : isC (shX s k) (shY k) = true
      · obtain ⟨j, hj, he⟩ := isC_cell hd
        have hd' := hd
        have he' := he
        unfold shX shY at hd' he'
        rw [if_pos hd', if_neg (by decide), he', if_pos (h.wT u).o, X3_setTone (h.wT u) hj, x_br]
        show f_X3_takeShadowOf_L2 n a (some b) s (nI (k + 1)) (wT (wT w a u) a (upd u j 8)) = _
        rw [wT_wT, ih _ _ _ (by omega) (by omega)]
        rw [show shF t' s u k = upd u j 8 by simp [shF, hc, hd, he, nI_clamp (show j < 2 ^ 31 by omega)]]
      · have hd' := hd
        unfold shX shY at hd'
        rw [if_neg hd', if_pos rfl, ih _ _ _ (by omega) (by omega)]
        rw [show shF t' s u k = u by simp [shF, hd]]
theorem X3_takeShadowOf (h : LyAt w a md vi t) (h' : LyAt w b md' vi' t') (hba : b ≠ a + 1) (hab : b ≠ a) (s : Int32) : f_X3_takeShadowOf a (some b) s w = x_ret () (wT w a (fo 48 (shF t' s) t)) := by
  have h1 := X3_shadow_L h h' hba hab s 48 0 xfuel t (by omega) (by unfold xfuel; omega)
  rw [show Jvm.Pilot.@@N@@.wT w a t = w from xset_self h.2, fo_R] at h1
  exact h1
end X3r
