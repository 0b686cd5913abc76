/-! ===== the flat wall: the darkest row, the mirror; the output ===== -/
/-- the sum of a row -/
def sumRow (T : Nat → Int32) (y : Nat) : Int32 := sumQ T 0 8 y 1 0
def darkF (T : Nat → Int32) (p : Nat × Int32) (y : Nat) : Nat × Int32 := if p.2 ≤ sumRow T y then p else (y, sumRow T y)
/-- is a row its own mirror image -/
def mirR (T : Nat → Int32) (y : Nat) : Bool := (List.range 4).all fun x => T (8 * y + x) == T (8 * y + (7 - x))
section X1b
variable {w : xW} {a b : Nat} {f : FW} {g : WL}
theorem X1_row (h : FwAt w a f) {y : Nat} (hy : y < 6) : f_X1_sumCellByCell a 0 (nI y) 7 (nI y) w = x_ret (sumRow f.T y) w := by
  have h1 := X1_sumCellByCell h (l := 0) (up := y) (r := 7) (lo := y) (by omega) (by omega) (by omega) hy
  rw [show y + 1 - y = 1 by omega] at h1
  exact h1
theorem X1_dark_L (h : FwAt w a f) : ∀ (d k n : Nat) (p : Nat × Int32), k + d = 6 → d < n → f_X1_rowWithLeastSum_L14 n a (nI p.1) p.2 (nI k) w = x_ret (nI ((List.range' k d).foldl (darkF f.T) p).1) w := by
  intro d
  induction d with
  | zero =>
    intro k n p hk hn
    obtain ⟨n, rfl⟩ : ∃ m, n = m + 1 := ⟨n - 1, by omega⟩
    simp only [f_X1_rowWithLeastSum_L14]
    rw [if_pos (show (6 : Int32) ≤ nI k from nI_le (a := 6) (by omega) (by omega))]
    rfl
  | succ d ih =>
    intro k n p hk hn
    obtain ⟨n, rfl⟩ : ∃ m, n = m + 1 := ⟨n - 1, by omega⟩
    simp only [f_X1_rowWithLeastSum_L14, h.o, if_true, X1_row h (show k < 6 by omega), x_br]
    rw [if_neg (show ¬ (6 : Int32) ≤ nI k from nI_ge (b := 6) (by omega) (by omega)), ← nI_succ k, List.range'_succ, List.foldl_cons]
    by_cases hc : p.2 ≤ sumRow f.T k
    · rw [if_pos hc, ih _ _ _ (by omega) (by omega), show darkF f.T p k = p by simp [darkF, hc]]
    · rw [if_neg hc, show darkF f.T p k = (k, sumRow f.T k) by simp [darkF, hc]]
      exact ih (k + 1) n (k, sumRow f.T k) (by omega) (by omega)
theorem X1_rowWithLeastSum (h : FwAt w a f) : f_X1_rowWithLeastSum a w = x_ret (nI ((List.range' 1 5).foldl (darkF f.T) (0, sumRow f.T 0)).1) w := by
  simp only [f_X1_rowWithLeastSum, h.o, if_true]
  show x_bind (f_X1_sumCellByCell a 0 (nI 0) 7 (nI 0) w) _ = _
  rw [X1_row h (by omega), x_br]
  exact X1_dark_L h 5 1 xfuel (0, sumRow f.T 0) (by omega) (by unfold xfuel; omega)
theorem nI_sub {a b : Nat} (h : b ≤ a) : nI a - nI b = nI (a - b) := by
  have e : nI a = nI (a - b) + nI b := by rw [nI_add, Nat.sub_add_cancel h]
  rw [e, Int32.add_sub_cancel]
theorem X1_mir_in (h : FwAt w a f) {y : Nat} (hy : y < 6) (K : Nat → Int32 → xW → xO Int32) : ∀ (d k n : Nat), k + d = 4 → d < n →
    f_X1_equalsItsMirrorImage_L10 K n a (nI y) (nI k) w = if ((List.range' k d).all fun x => f.T (8 * y + x) == f.T (8 * y + (7 - x))) = true then K a (nI (y + 1)) w else x_ret 0 w := by
  intro d
  induction d with
  | zero =>
    intro k n hk hn
    obtain ⟨n, rfl⟩ : ∃ m, n = m + 1 := ⟨n - 1, by omega⟩
    simp only [f_X1_equalsItsMirrorImage_L10]
    rw [if_pos (show (4 : Int32) ≤ nI k from nI_le (a := 4) (by omega) (by omega)), ← nI_succ]
    rfl
  | succ d ih =>
    intro k n hk hn
    obtain ⟨n, rfl⟩ : ∃ m, n = m + 1 := ⟨n - 1, by omega⟩
    simp only [f_X1_equalsItsMirrorImage_L10, X6_cellNumber, x_br, show (7 : Int32) - nI k = nI (7 - k) from nI_sub (a := 7) (by omega), cell_nI, h.o, if_true, X1_toneAt h (show 8 * y + k < 48 by omega), X1_toneAt h (show 8 * y + (7 - k) < 48 by omega)]
    rw [if_neg (show ¬ (4 : Int32) ≤ nI k from nI_ge (b := 4) (by omega) (by omega)), ← nI_succ k, show List.range' k (d + 1) = k :: List.range' (k + 1) d from rfl, List.all_cons]
    by_cases hc : f.T (8 * y + k) = f.T (8 * y + (7 - k))
    · rw [if_pos hc, ih _ _ (by omega) (by omega), show (f.T (8 * y + k) == f.T (8 * y + (7 - k))) = true from beq_iff_eq.mpr hc]
      rfl
    · rw [if_neg hc, show (f.T (8 * y + k) == f.T (8 * y + (7 - k))) = false from beq_eq_false_iff_ne.mpr hc]
      rfl
theorem X1_mir_out (h : FwAt w a f) : ∀ (d k n : Nat), k + d = 6 → d < n →
    f_X1_equalsItsMirrorImage_L2 n a (nI k) w = x_ret (if ((List.range' k d).all (mirR f.T)) = true then 1 else 0) w := by
  intro d
  induction d with
  | zero =>
    intro k n hk hn
    obtain ⟨n, rfl⟩ : ∃ m, n = m + 1 := ⟨n - 1, by omega⟩
    simp only [f_X1_equalsItsMirrorImage_L2]
    rw [if_pos (show (6 : Int32) ≤ nI k from nI_le (a := 6) (by omega) (by omega))]
    rfl
  | succ d ih =>
    intro k n hk hn
    obtain ⟨n, rfl⟩ : ∃ m, n = m + 1 := ⟨n - 1, by omega⟩
    have h1 := X1_mir_in h (show k < 6 by omega) (fun a0 x1 w => f_X1_equalsItsMirrorImage_L2 n a0 x1 w) 4 0 xfuel (by omega) (by unfold xfuel; omega)
    simp only [f_X1_equalsItsMirrorImage_L2]
    rw [if_neg (show ¬ (6 : Int32) ≤ nI k from nI_ge (b := 6) (by omega) (by omega))]
    refine Eq.trans h1 ?_
    rw [ih _ _ (by omega) (by omega), show List.range' k (d + 1) = k :: List.range' (k + 1) d from rfl, List.all_cons]
    show (if mirR f.T k = true then _ else _) = _
    by_cases hc : mirR f.T k = true
    · rw [if_pos hc, hc]
      rfl
    · rw [if_neg hc, show mirR f.T k = false by simpa using hc]
      rfl
theorem X1_mirror (h : FwAt w a f) : f_X1_equalsItsMirrorImage a w = x_ret (if ((List.range 6).all (mirR f.T)) = true then 1 else 0) w := by
  have h1 := X1_mir_out h 6 0 xfuel (by omega) (by unfold xfuel; omega)
  rw [← List.range_eq_range'] at h1
  exact h1
end X1b
/-! the output -/
def OuAt (w : xW) (a n : Nat) (t : Nat → Int32) : Prop := w.2 a = some (.inr (5, [.ref (a + 1), .int (nI n)])) ∧ w.2 (a + 1) = some (.inl (1, 32, .inl t)) ∧ n ≤ 32
section X5
variable {w : xW} {a n : Nat} {t : Nat → Int32}
theorem OuAt.g0 (h : OuAt w a n t) : x_getr w a 5 0 = some (some (a + 1)) := by simp [x_getr, x_get, h.1, x_vr]
theorem OuAt.g1 (h : OuAt w a n t) : x_geti w a 5 1 = some (nI n) := by simp [x_geti, x_get, h.1, x_vi]
theorem OuAt.o (h : OuAt w a n t) : x_isO w a 5 = true := by simp [x_isO, h.1]
theorem OuAt.len (h : OuAt w a n t) : x_len w (a + 1) = some (nI 32) := len_of h.2.1 (by omega)
theorem OuAt.p1 (h : OuAt w a n t) (v : Int32) : x_put w a 5 1 (.int v) = some (xset w a (.inr (5, [.ref (a + 1), .int v]))) := by simp [x_put, h.1]
theorem OuAt.fr {w' : xW} (h : OuAt w a n t) {A : Nat → Prop} (hf : Fr A w w') (h0 : ¬ A a) (h1 : ¬ A (a + 1)) : OuAt w' a n t := ⟨(hf.2 _ h0).trans h.1, (hf.2 _ h1).trans h.2.1, h.2.2⟩
abbrev ouc (a : Nat) : Nat → Prop := fun q => q = a ∨ q = a + 1
theorem X5_clear (h : OuAt w a n t) : ∃ w', f_X5_clear a w = x_ret () w' ∧ OuAt w' a 0 t ∧ Fr (ouc a) w w' := by
  refine ⟨_, ?_, ⟨xset_at _ _ _, (xset_ne (by omega)).trans h.2.1, Nat.zero_le _⟩, Fr.set (Or.inl rfl)⟩
  simp only [f_X5_clear, h.p1, ob]
  rfl
theorem X5_put (h : OuAt w a n t) (hn : n < 32) (x : Int32) : ∃ w', f_X5_put a x w = x_ret () w' ∧ OuAt w' a (n + 1) (upd t n (x_nar 1 x)) ∧ Fr (ouc a) w w' := by
  have h1 : OuAt (xset w (a + 1) (.inl (1, 32, .inl (upd t n (x_nar 1 x))))) a n (upd t n (x_nar 1 x)) := ⟨(xset_ne (by omega)).trans h.1, xset_at _ _ _, h.2.2⟩
  refine ⟨xset (xset w (a + 1) (.inl (1, 32, .inl (upd t n (x_nar 1 x))))) a (.inr (5, [.ref (a + 1), .int (nI (n + 1))])), ?_, ⟨xset_at _ _ _, (xset_ne (by omega)).trans (xset_at _ _ _), hn⟩, (Fr.set (A := ouc a) (Or.inr rfl)).tr (Fr.set (A := ouc a) (Or.inl rfl))⟩
  simp only [f_X5_put, h.g0, h.g1, h.len, ob, oe, ist_of h.2.1 hn (by omega), h1.g1, h1.p1]
  rw [if_neg (nI_pos (by omega)), if_neg (nI_ge hn (by omega)), nI_succ]
theorem X5_charAt (h : OuAt w a n t) {k : Nat} (hk : k < 32) (hx : x_nar 1 (t k) = t k) : f_X5_charAt a (nI k) w = x_ret (t k) w := by
  simp only [f_X5_charAt, h.g0, h.len, ob, oe, ild_of h.2.1 hk (by omega), hx, if_true]
  rw [if_neg (nI_pos (by omega)), if_neg (nI_ge hk (by omega))]
end X5
