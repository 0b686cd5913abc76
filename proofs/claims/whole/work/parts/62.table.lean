/-! ===== the flat wall: sums from a table ===== -/
def rwS (T : Nat → Int32) (j : Nat) : Nat → Int32
  | 0 => 0
  | i + 1 => rwS T j i + T (8 * j + i)
def pfS (T : Nat → Int32) (i : Nat) : Nat → Int32
  | 0 => 0
  | j + 1 => pfS T i j + rwS T j i
theorem pfS_0 (T : Nat → Int32) : ∀ j : Nat, pfS T 0 j = 0
  | 0 => rfl
  | j + 1 => by
    show pfS T 0 j + 0 = 0
    rw [pfS_0 T j, Int32.add_zero]
theorem pfS_cell (T : Nat → Int32) (i j : Nat) : ((T (8 * j + i) + pfS T i (j + 1)) + pfS T (i + 1) j) - pfS T i j = pfS T (i + 1) (j + 1) := by
  show ((T (8 * j + i) + (pfS T i j + rwS T j i)) + pfS T (i + 1) j) - pfS T i j = pfS T (i + 1) j + (rwS T j i + T (8 * j + i))
  generalize pfS T i j = a
  generalize rwS T j i = b
  generalize pfS T (i + 1) j = c
  generalize T (8 * j + i) = d
  grind
theorem sumR_eq (T : Nat → Int32) (y : Nat) : ∀ (n l : Nat) (s : Int32), sumR T l n y s = s + (rwS T y (l + n) - rwS T y l)
  | 0, l, s => by
    show s = s + (rwS T y l - rwS T y l)
    rw [Int32.sub_self, Int32.add_zero]
  | n + 1, l, s => by
    have e := sumR_eq T y n (l + 1) (s + T (8 * y + l))
    show sumR T (l + 1) n y (s + T (8 * y + l)) = _
    rw [e, show l + 1 + n = l + (n + 1) by omega]
    show _ + (_ - (rwS T y l + T (8 * y + l))) = _
    generalize rwS T y l = a
    generalize rwS T y (l + (n + 1)) = b
    generalize T (8 * y + l) = d
    grind
theorem sumQ_eq (T : Nat → Int32) (l n : Nat) : ∀ (m up : Nat) (s : Int32), sumQ T l n up m s = s + ((pfS T (l + n) (up + m) - pfS T l (up + m)) - (pfS T (l + n) up - pfS T l up))
  | 0, up, s => by
    show s = s + ((pfS T (l + n) up - pfS T l up) - (pfS T (l + n) up - pfS T l up))
    rw [Int32.sub_self, Int32.add_zero]
  | m + 1, up, s => by
    have e := sumQ_eq T l n m (up + 1) (sumR T l n up s)
    show sumQ T l n (up + 1) m (sumR T l n up s) = _
    rw [e, sumR_eq, show up + 1 + m = up + (m + 1) by omega]
    show _ + (_ - ((pfS T (l + n) up + rwS T up (l + n)) - (pfS T l up + rwS T up l))) = _
    generalize pfS T (l + n) (up + (m + 1)) = a
    generalize pfS T l (up + (m + 1)) = b
    generalize pfS T (l + n) up = c
    generalize pfS T l up = d
    generalize rwS T up (l + n) = e
    generalize rwS T up l = f
    grind
section X1t
variable {w : xW} {a : Nat} {f : FW}
abbrev wB (w : xW) (a : Nat) (u : Nat → Int32) : xW := xset w (a + 2) (.inl (0, 63, .inl u))
def FW.sB (f : FW) (u : Nat → Int32) : FW := FW.mk f.T u f.re f.qu f.q f.pa
theorem FwAt.sB (h : FwAt w a f) (u : Nat → Int32) : FwAt (wB w a u) a (f.sB u) :=
  ⟨(xset_ne (by omega)).trans h.1, (xset_ne (by omega)).trans h.2.1, xset_at _ _ _, (xset_ne (by omega)).trans h.2.2.2.1, (xset_ne (by omega)).trans h.2.2.2.2.1, (xset_ne (by omega)).trans h.2.2.2.2.2⟩
theorem wB_wB (u v : Nat → Int32) : wB (wB w a u) a v = wB w a v := xset_set _ _ _ _
theorem FwAt.lB (h : FwAt w a f) : x_len w (a + 2) = some (nI 63) := len_of h.2.2.1 (by omega)
theorem FwAt.ldB (h : FwAt w a f) {k : Nat} (hk : k < 63) : x_ild w (a + 2) 0 (nI k) = some (f.tb k) := ild_of h.2.2.1 hk (by omega)
theorem FwAt.stB (h : FwAt w a f) {k : Nat} (hk : k < 63) (x : Int32) : x_ist w (a + 2) 0 (nI k) x = some (wB w a (upd f.tb k x)) := ist_of h.2.2.1 hk (by omega) x
theorem ix9 (i j : Nat) : nI j * 9 + nI i = nI (9 * j + i) := by
  rw [show (9 : Int32) = nI 9 from rfl, nI_mul, nI_add, Nat.mul_comm]
theorem X1_sumBefore (h : FwAt w a f) {x y : Nat} (hx : x ≤ 8) (hy : y ≤ 6) : f_X1_sumBefore a (nI x) (nI y) w = x_ret (f.tb (9 * y + x)) w := by
  simp only [f_X1_sumBefore, ix9, h.g1, h.lB, ob, oe, h.ldB (show 9 * y + x < 63 by omega)]
  rw [if_neg (nI_pos (by omega)), if_neg (nI_ge (show 9 * y + x < 63 by omega) (by omega))]
/-- how far the table is filled -/
def TbS (T u : Nat → Int32) (y x : Nat) : Prop := ∀ j i, j ≤ 6 → i ≤ 8 → (i = 0 ∨ j ≤ y ∨ (j = y + 1 ∧ i ≤ x)) → u (9 * j + i) = pfS T i j
theorem X1_tab_in (h : FwAt w a f) {y : Nat} (hy : y < 6) (K : Nat → Int32 → xW → xO Unit) : ∀ (d k n : Nat) (u : Nat → Int32), k + d = 8 → d < n → TbS f.T u y k →
    ∃ u', f_X1_fillTable_L10 K n a (nI y) (nI k) (wB w a u) = K a (nI (y + 1)) (wB w a u') ∧ TbS f.T u' y 8 := by
  intro d
  induction d with
  | zero =>
    intro k n u hk hn hT
    obtain ⟨n, rfl⟩ : ∃ m, n = m + 1 := ⟨n - 1, by omega⟩
    obtain rfl : k = 8 := by omega
    refine ⟨u, ?_, hT⟩
    simp only [f_X1_fillTable_L10]
    rw [if_pos (show (8 : Int32) ≤ nI 8 from nI_le (a := 8) (by omega) (by omega)), ← nI_succ]
  | succ d ih =>
    intro k n u hk hn hT
    obtain ⟨n, rfl⟩ : ∃ m, n = m + 1 := ⟨n - 1, by omega⟩
    have h1 := h.sB u
    have p1 : nI (y + 1) * 9 + nI k + 1 = nI (9 * (y + 1) + (k + 1)) := by
      rw [ix9, ← nI_succ]
      rfl
    have e1 := X1_sumBefore h1 (x := k) (y := y + 1) (by omega) (by omega)
    have e2 := X1_sumBefore h1 (x := k + 1) (y := y) (by omega) (by omega)
    have e3 := X1_sumBefore h1 (x := k) (y := y) (by omega) (by omega)
    have e4 := X1_toneAt h1 (show 8 * y + k < 48 by omega)
    have v1 : u (9 * (y + 1) + k) = pfS f.T k (y + 1) := hT (y + 1) k (by omega) (by omega) (Or.inr (Or.inr ⟨rfl, Nat.le_refl _⟩))
    have v2 : u (9 * y + (k + 1)) = pfS f.T (k + 1) y := hT y (k + 1) (by omega) (by omega) (Or.inr (Or.inl (Nat.le_refl _)))
    have v3 : u (9 * y + k) = pfS f.T k y := hT y k (by omega) (by omega) (Or.inr (Or.inl (Nat.le_refl _)))
    have e5 := h1.stB (k := 9 * (y + 1) + (k + 1)) (by omega) (pfS f.T (k + 1) (y + 1))
    have ev : ((f.T (8 * y + k) + u (9 * (y + 1) + k)) + u (9 * y + (k + 1))) - u (9 * y + k) = pfS f.T (k + 1) (y + 1) := by
      rw [v1, v2, v3]
      exact pfS_cell f.T k y
    obtain ⟨u', e6, hT'⟩ := ih (k + 1) n (upd u (9 * (y + 1) + (k + 1)) (pfS f.T (k + 1) (y + 1))) (by omega) (by omega) (fun j i hj hi hc => by
      unfold upd
      by_cases h9 : 9 * j + i = 9 * (y + 1) + (k + 1)
      · rw [if_pos h9]
        have : j = y + 1 := by omega
        subst this
        have : i = k + 1 := by omega
        subst this
        rfl
      · rw [if_neg h9]
        refine hT j i hj hi ?_
        rcases hc with hc | hc | ⟨hc, hc'⟩
        · exact Or.inl hc
        · exact Or.inr (Or.inl hc)
        · refine Or.inr (Or.inr ⟨hc, ?_⟩)
          subst hc
          omega)
    refine ⟨u', ?_, hT'⟩
    simp only [f_X1_fillTable_L10, h1.g1, h1.lB, ob, oe, p1, X6_cellNumber, x_br, cell_nI, h1.o, if_true, e4, ← nI_succ, e1, e2, e3]
    rw [if_neg (show ¬ (8 : Int32) ≤ nI k from nI_ge (b := 8) (by omega) (by omega)), if_neg (nI_ge (show 9 * (y + 1) + (k + 1) < 63 by omega) (by omega))]
    show (x_ist (wB w a u) (a + 2) 0 (nI (9 * (y + 1) + (k + 1))) (((f.T (8 * y + k) + u (9 * (y + 1) + k)) + u (9 * y + (k + 1))) - u (9 * y + k))).bind _ = _
    rw [ev, e5, ob, wB_wB]
    exact e6
theorem X1_tab_out (h : FwAt w a f) : ∀ (d k n : Nat) (u : Nat → Int32), k + d = 6 → d < n → TbS f.T u k 0 →
    ∃ u', f_X1_fillTable_L2 n a (nI k) (wB w a u) = x_ret () (wB w a u') ∧ TbS f.T u' 6 0 := by
  intro d
  induction d with
  | zero =>
    intro k n u hk hn hT
    obtain ⟨n, rfl⟩ : ∃ m, n = m + 1 := ⟨n - 1, by omega⟩
    obtain rfl : k = 6 := by omega
    refine ⟨u, ?_, hT⟩
    simp only [f_X1_fillTable_L2]
    rw [if_pos (show (6 : Int32) ≤ nI 6 from nI_le (a := 6) (by omega) (by omega))]
  | succ d ih =>
    intro k n u hk hn hT
    obtain ⟨n, rfl⟩ : ∃ m, n = m + 1 := ⟨n - 1, by omega⟩
    obtain ⟨u1, e1, hT1⟩ := X1_tab_in h (show k < 6 by omega) (fun a0 x1 w => f_X1_fillTable_L2 n a0 x1 w) 8 0 xfuel u (by omega) (by unfold xfuel; omega) hT
    obtain ⟨u2, e2, hT2⟩ := ih (k + 1) n u1 (by omega) (by omega) (fun j i hj hi hc => hT1 j i hj hi (by omega))
    refine ⟨u2, ?_, hT2⟩
    simp only [f_X1_fillTable_L2]
    rw [if_neg (show ¬ (6 : Int32) ≤ nI k from nI_ge (b := 6) (by omega) (by omega))]
    rw [nI_0] at e1
    rw [e1]
    exact e2
/-- the table's first row and column hold nothing -/
def Brd (u : Nat → Int32) : Prop := (∀ i, i ≤ 8 → u i = 0) ∧ ∀ j, j ≤ 6 → u (9 * j) = 0
theorem X1_sumFromTable (h : FwAt w a f) (hb : Brd f.tb) {l up r lo : Nat} (hl : l ≤ r) (hr : r < 8) (hu : up ≤ lo) (hlo : lo < 6) :
    ∃ w' f', f_X1_sumFromTable a (nI l) (nI up) (nI r) (nI lo) w = x_ret (sumQ f.T l (r + 1 - l) up (lo + 1 - up) 0) w' ∧ FwAt w' a f' ∧ f'.T = f.T ∧ Brd f'.tb ∧ Fr (fwc a) w w' := by
  obtain ⟨u, e1, hT⟩ := X1_tab_out h 6 0 xfuel f.tb (by omega) (by unfold xfuel; omega) (fun j i hj hi hc => by
    by_cases h0 : i = 0
    · subst h0
      rw [Nat.add_zero, hb.2 j hj, pfS_0]
    · have : j = 0 := by omega
      subst this
      rw [Nat.mul_zero, Nat.zero_add, hb.1 i hi]
      rfl)
  rw [show wB w a f.tb = w from xset_self h.2.2.1, nI_0] at e1
  have h1 := h.sB u
  have hv : ∀ j i, j ≤ 6 → i ≤ 8 → u (9 * j + i) = pfS f.T i j := fun j i hj hi => hT j i hj hi (Or.inr (Or.inl hj))
  have e2 := X1_sumBefore h1 (x := r + 1) (y := lo + 1) (by omega) (by omega)
  have e3 := X1_sumBefore h1 (x := l) (y := lo + 1) (by omega) (by omega)
  have e4 := X1_sumBefore h1 (x := r + 1) (y := up) (by omega) (by omega)
  have e5 := X1_sumBefore h1 (x := l) (y := up) (by omega) (by omega)
  refine ⟨_, _, ?_, h1, rfl, ⟨fun i hi => ?_, fun j hj => ?_⟩, Fr.set ⟨by omega, by omega⟩⟩
  · simp only [f_X1_sumFromTable, h.o, if_true, f_X1_fillTable, e1, x_br, h1.o, ← nI_succ, e2, e3, e4, e5]
    show x_ret (((u (9 * (lo + 1) + (r + 1)) - u (9 * (lo + 1) + l)) - u (9 * up + (r + 1))) + u (9 * up + l)) _ = _
    rw [hv _ _ (by omega) (by omega), hv _ _ (by omega) (by omega), hv _ _ (by omega) (by omega), hv _ _ (by omega) (by omega), sumQ_eq, show l + (r + 1 - l) = r + 1 by omega, show up + (lo + 1 - up) = lo + 1 by omega]
    congr 1
    generalize pfS f.T (r + 1) (lo + 1) = a
    generalize pfS f.T l (lo + 1) = b
    generalize pfS f.T (r + 1) up = c
    generalize pfS f.T l up = d
    grind
  · show u i = 0
    have := hv 0 i (by omega) hi
    rw [Nat.mul_zero, Nat.zero_add] at this
    exact this
  · show u (9 * j) = 0
    have := hv j 0 hj (by omega)
    rw [Nat.add_zero, pfS_0] at this
    exact this
end X1t
