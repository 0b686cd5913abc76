/-! ===== the model's reading: sums, the commonest tone, the darkest row ===== -/
theorem cell_nI' (i j : Nat) : 8 * nI j + nI i = nI (8 * j + i) := by
  rw [show (8 : Int32) = nI 8 from rfl, nI_mul, nI_add]
section X7s
variable {w : xW} {c : Nat} {F : Nat → Int32} {ar : Nat → Nat → Int32} {g : WL}
theorem X7_sum_in (h : MoAt w c F ar) (r : RelS g (ar 1)) {l rr lo y : Nat} (hr : rr < 8) (hy : y < 6) (K : Nat → Int32 → Int32 → Int32 → Int32 → Int32 → xW → xO Int32) : ∀ (d k n : Nat) (s : Int32), k + d = rr + 1 → d < n →
    f_X7_sum_L16 K n c (nI l) (nI rr) (nI lo) s (nI y) (nI k) w = K c (nI l) (nI rr) (nI lo) (sumR (seeG g) k d y s) (nI (y + 1)) w := by
  intro d
  induction d with
  | zero =>
    intro k n s hk hn
    obtain ⟨n, rfl⟩ : ∃ m, n = m + 1 := ⟨n - 1, by omega⟩
    simp only [f_X7_sum_L16]
    rw [if_pos (nI_lt (by omega) (by omega)), ← nI_succ]
    rfl
  | succ d ih =>
    intro k n s hk hn
    obtain ⟨n, rfl⟩ : ∃ m, n = m + 1 := ⟨n - 1, by omega⟩
    simp only [f_X7_sum_L16, x_br, cell_nI', h.o, if_true, X7_look h r (show 8 * y + k < 48 by omega)]
    rw [if_neg (nI_nlt (by omega) (by omega)), ← nI_succ k, ih _ _ _ (by omega) (by omega)]
    rfl
theorem X7_sum_out (h : MoAt w c F ar) (r : RelS g (ar 1)) {l rr lo : Nat} (hl : l ≤ rr) (hr : rr < 8) (hlo : lo < 6) : ∀ (d k n : Nat) (s : Int32), k + d = lo + 1 → d < n →
    f_X7_sum_L6 n c (nI l) (nI rr) (nI lo) s (nI k) w = x_ret (sumQ (seeG g) l (rr + 1 - l) k d s) w := by
  intro d
  induction d with
  | zero =>
    intro k n s hk hn
    obtain ⟨n, rfl⟩ : ∃ m, n = m + 1 := ⟨n - 1, by omega⟩
    simp only [f_X7_sum_L6]
    rw [if_pos (nI_lt (by omega) (by omega))]
    rfl
  | succ d ih =>
    intro k n s hk hn
    obtain ⟨n, rfl⟩ : ∃ m, n = m + 1 := ⟨n - 1, by omega⟩
    simp only [f_X7_sum_L6]
    rw [if_neg (nI_nlt (by omega) (by omega)), X7_sum_in h r hr (by omega) _ (rr + 1 - l) l xfuel s (by omega) (by unfold xfuel; omega), ih _ _ _ (by omega) (by omega)]
    rfl
theorem X7_sum (h : MoAt w c F ar) (r : RelS g (ar 1)) {l up rr lo : Nat} (hl : l ≤ rr) (hr : rr < 8) (hu : up ≤ lo) (hlo : lo < 6) : f_X7_sum c (nI l) (nI up) (nI rr) (nI lo) w = x_ret (sumQ (seeG g) l (rr + 1 - l) up (lo + 1 - up) 0) w := by
  unfold f_X7_sum
  exact X7_sum_out h r hl hr hlo (lo + 1 - up) up xfuel 0 (by omega) (by unfold xfuel; omega)
theorem X7_row (h : MoAt w c F ar) (r : RelS g (ar 1)) {y : Nat} (hy : y < 6) : f_X7_sum c 0 (nI y) 7 (nI y) w = x_ret (sumRow (seeG g) y) w := by
  have h1 := X7_sum h r (l := 0) (up := y) (rr := 7) (lo := y) (by omega) (by omega) (by omega) hy
  rw [show y + 1 - y = 1 by omega] at h1
  exact h1
/-- the model's own search of the darkest row -/
def darkM (T : Nat → Int32) (b y : Nat) : Nat := if sumRow T b ≤ sumRow T y then b else y
theorem X7_dark_L (h : MoAt w c F ar) (r : RelS g (ar 1)) : ∀ (d k n b : Nat), k + d = 6 → d < n → b < 6 → f_X7_darkestRow_L9 n c (nI b) (nI k) w = x_ret (nI ((List.range' k d).foldl (darkM (seeG g)) b)) w := by
  intro d
  induction d with
  | zero =>
    intro k n b hk hn hb
    obtain ⟨n, rfl⟩ : ∃ m, n = m + 1 := ⟨n - 1, by omega⟩
    simp only [f_X7_darkestRow_L9]
    rw [if_pos (show (6 : Int32) ≤ nI k from nI_le (a := 6) (by omega) (by omega))]
    rfl
  | succ d ih =>
    intro k n b hk hn hb
    obtain ⟨n, rfl⟩ : ∃ m, n = m + 1 := ⟨n - 1, by omega⟩
    simp only [f_X7_darkestRow_L9, h.o, if_true, X7_row h r (show k < 6 by omega), X7_row h r hb, x_br]
    rw [if_neg (show ¬ (6 : Int32) ≤ nI k from nI_ge (b := 6) (by omega) (by omega)), ← nI_succ k, show List.range' k (d + 1) = k :: List.range' (k + 1) d from rfl, List.foldl_cons]
    by_cases hc : sumRow (seeG g) b ≤ sumRow (seeG g) k
    · rw [if_pos hc, ih _ _ _ (by omega) (by omega) hb, show darkM (seeG g) b k = b by simp [darkM, hc]]
    · rw [if_neg hc, ih _ _ _ (by omega) (by omega) (show k < 6 by omega), show darkM (seeG g) b k = k by simp [darkM, hc]]
theorem dark_eq (T : Nat → Int32) : ∀ (l : List Nat) (b : Nat), l.foldl (darkF T) (b, sumRow T b) = (l.foldl (darkM T) b, sumRow T (l.foldl (darkM T) b))
  | [], _ => rfl
  | y :: l, b => by
    rw [List.foldl_cons, List.foldl_cons]
    by_cases hc : sumRow T b ≤ sumRow T y
    · rw [show darkF T (b, sumRow T b) y = (b, sumRow T b) by simp [darkF, hc], show darkM T b y = b by simp [darkM, hc], dark_eq T l b]
    · rw [show darkF T (b, sumRow T b) y = (y, sumRow T y) by simp [darkF, hc], show darkM T b y = y by simp [darkM, hc], dark_eq T l y]
theorem X7_cells (h : MoAt w c F ar) (r : RelS g (ar 1)) (x : Nat) : f_X7_cellsOf c (nI x) w = x_ret (nI (cntT (seeG g) x)) w := X7_cellsOf h r (nI x)
/-- the model's own search of the commonest tone -/
def bestM (T : Nat → Int32) (b x : Nat) : Nat := if cntT T x ≤ cntT T b then b else x
theorem X7_best_L (h : MoAt w c F ar) (r : RelS g (ar 1)) : ∀ (d k n b : Nat), k + d = 16 → d < n → f_X7_commonestTone_L9 n c (nI b) (nI k) w = x_ret (nI ((List.range' k d).foldl (bestM (seeG g)) b)) w := by
  intro d
  induction d with
  | zero =>
    intro k n b hk hn
    obtain ⟨n, rfl⟩ : ∃ m, n = m + 1 := ⟨n - 1, by omega⟩
    simp only [f_X7_commonestTone_L9]
    rw [if_pos (show (15 : Int32) < nI k from nI_lt (a := 15) (by omega) (by omega))]
    rfl
  | succ d ih =>
    intro k n b hk hn
    obtain ⟨n, rfl⟩ : ∃ m, n = m + 1 := ⟨n - 1, by omega⟩
    have q1 : cntT (seeG g) k ≤ 48 := cnt_le _ _
    have q2 : cntT (seeG g) b ≤ 48 := cnt_le _ _
    simp only [f_X7_commonestTone_L9, h.o, if_true, X7_cells h r, x_br, nI_cle (show cntT (seeG g) k < 2 ^ 31 by omega) (show cntT (seeG g) b < 2 ^ 31 by omega)]
    rw [if_neg (show ¬ (15 : Int32) < nI k from nI_nlt (b := k) (a := 15) (by omega) (by omega)), ← nI_succ k, show List.range' k (d + 1) = k :: List.range' (k + 1) d from rfl, List.foldl_cons]
    by_cases hc : cntT (seeG g) k ≤ cntT (seeG g) b
    · rw [if_pos hc, ih _ _ _ (by omega) (by omega), show bestM (seeG g) b k = b by simp [bestM, hc]]
    · rw [if_neg hc, ih _ _ _ (by omega) (by omega), show bestM (seeG g) b k = k by simp [bestM, hc]]
theorem best_eq (T : Nat → Int32) : ∀ (l : List Nat) (b : Nat), l.foldl (bestF T) (b, cntT T b) = (l.foldl (bestM T) b, cntT T (l.foldl (bestM T) b))
  | [], _ => rfl
  | y :: l, b => by
    rw [List.foldl_cons, List.foldl_cons]
    by_cases hc : cntT T y ≤ cntT T b
    · rw [show bestF T (b, cntT T b) y = (b, cntT T b) by simp [bestF, hc], show bestM T b y = b by simp [bestM, hc], best_eq T l b]
    · rw [show bestF T (b, cntT T b) y = (y, cntT T y) by simp [bestF, hc], show bestM T b y = y by simp [bestM, hc], best_eq T l y]
/-- both searches find the same tone -/
theorem best_both (T : Nat → Int32) : (fo 16 (bestF T) (0, 0)).1 = (List.range' 1 15).foldl (bestM T) 0 := by
  rw [← fo_R, show List.range' 0 16 = 0 :: List.range' 1 15 from rfl, List.foldl_cons]
  have e : bestF T (0, 0) 0 = (0, cntT T 0) := by
    unfold bestF
    by_cases h : cntT T 0 ≤ 0
    · rw [if_pos h, show cntT T 0 = 0 by omega]
    · rw [if_neg h]
  rw [e, best_eq]
end X7s
