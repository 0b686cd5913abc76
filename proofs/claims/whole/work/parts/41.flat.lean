/-! ===== the flat wall: its cells, what is counted and summed ===== -/
/-- tones, table, reached, queue, queued, parents -/
def FW : Type := (Nat → Int32) × (Nat → Int32) × (Nat → Int32) × (Nat → Int32) × Int32 × (Nat → Int32)
def FW.T (f : FW) : Nat → Int32 := f.1
def FW.tb (f : FW) : Nat → Int32 := f.2.1
def FW.re (f : FW) : Nat → Int32 := f.2.2.1
def FW.qu (f : FW) : Nat → Int32 := f.2.2.2.1
def FW.q (f : FW) : Int32 := f.2.2.2.2.1
def FW.pa (f : FW) : Nat → Int32 := f.2.2.2.2.2
def FW.mk (T tb re qu : Nat → Int32) (q : Int32) (pa : Nat → Int32) : FW := (T, tb, re, qu, q, pa)
def FwAt (w : xW) (a : Nat) (f : FW) : Prop := w.2 a = some (.inr (1, [.ref (a + 1), .ref (a + 2), .ref (a + 3), .ref (a + 4), .int f.q, .ref (a + 5)])) ∧ w.2 (a + 1) = some (.inl (0, 48, .inl f.T)) ∧ w.2 (a + 2) = some (.inl (0, 63, .inl f.tb)) ∧
  w.2 (a + 3) = some (.inl (2, 48, .inl f.re)) ∧ w.2 (a + 4) = some (.inl (0, 48, .inl f.qu)) ∧ w.2 (a + 5) = some (.inl (0, 48, .inl f.pa))
def fwc (a : Nat) : Nat → Prop := fun q => a ≤ q ∧ q < a + 6
/-- an array of ints -/
theorem ild_of {w : xW} {a t N : Nat} {f : Nat → Int32} (h : w.2 a = some (.inl (t, N, .inl f))) {k : Nat} (hk : k < N) (hN : N < 2 ^ 31) : x_ild w a t (nI k) = some (f k) := by
  simp only [x_ild, h]
  rw [if_pos ⟨trivial, nI_in (N := N) hk hN⟩, nI_clamp (by omega)]
theorem ist_of {w : xW} {a t N : Nat} {f : Nat → Int32} (h : w.2 a = some (.inl (t, N, .inl f))) {k : Nat} (hk : k < N) (hN : N < 2 ^ 31) (x : Int32) : x_ist w a t (nI k) x = some (xset w a (.inl (t, N, .inl (upd f k (x_nar t x))))) := by
  simp only [x_ist, h]
  rw [if_pos ⟨trivial, nI_in (N := N) hk hN⟩, nI_clamp (by omega)]
theorem len_of {w : xW} {a t N : Nat} {f : Nat → Int32} (h : w.2 a = some (.inl (t, N, .inl f))) (ht : t ≤ 5) : x_len w a = some (nI N) := by
  simp [x_len, h, ht]
section X1
variable {w : xW} {a b : Nat} {f : FW} {g : WL}
theorem FwAt.g0 (h : FwAt w a f) : x_getr w a 1 0 = some (some (a + 1)) := by simp [x_getr, x_get, h.1, x_vr]
theorem FwAt.g1 (h : FwAt w a f) : x_getr w a 1 1 = some (some (a + 2)) := by simp [x_getr, x_get, h.1, x_vr]
theorem FwAt.g2 (h : FwAt w a f) : x_getr w a 1 2 = some (some (a + 3)) := by simp [x_getr, x_get, h.1, x_vr]
theorem FwAt.g3 (h : FwAt w a f) : x_getr w a 1 3 = some (some (a + 4)) := by simp [x_getr, x_get, h.1, x_vr]
theorem FwAt.g4 (h : FwAt w a f) : x_geti w a 1 4 = some f.q := by simp [x_geti, x_get, h.1, x_vi]
theorem FwAt.g5 (h : FwAt w a f) : x_getr w a 1 5 = some (some (a + 5)) := by simp [x_getr, x_get, h.1, x_vr]
theorem FwAt.o (h : FwAt w a f) : x_isO w a 1 = true := by simp [x_isO, h.1]
theorem FwAt.lT (h : FwAt w a f) : x_len w (a + 1) = some (nI 48) := len_of h.2.1 (by omega)
theorem FwAt.ldT (h : FwAt w a f) {k : Nat} (hk : k < 48) : x_ild w (a + 1) 0 (nI k) = some (f.T k) := ild_of h.2.1 hk (by omega)
theorem FwAt.fr {w' : xW} (h : FwAt w a f) {A : Nat → Prop} (hf : Fr A w w') (hA : ∀ q, fwc a q → ¬ A q) : FwAt w' a f :=
  ⟨(hf.2 _ (hA _ ⟨by omega, by omega⟩)).trans h.1, (hf.2 _ (hA _ ⟨by omega, by omega⟩)).trans h.2.1, (hf.2 _ (hA _ ⟨by omega, by omega⟩)).trans h.2.2.1, (hf.2 _ (hA _ ⟨by omega, by omega⟩)).trans h.2.2.2.1, (hf.2 _ (hA _ ⟨by omega, by omega⟩)).trans h.2.2.2.2.1, (hf.2 _ (hA _ ⟨by omega, by omega⟩)).trans h.2.2.2.2.2⟩
def FW.sT (f : FW) (u : Nat → Int32) : FW := FW.mk u f.tb f.re f.qu f.q f.pa
theorem FwAt.sT (h : FwAt w a f) (u : Nat → Int32) : FwAt (xset w (a + 1) (.inl (0, 48, .inl u))) a (f.sT u) :=
  ⟨(xset_ne (by omega)).trans h.1, xset_at _ _ _, (xset_ne (by omega)).trans h.2.2.1, (xset_ne (by omega)).trans h.2.2.2.1, (xset_ne (by omega)).trans h.2.2.2.2.1, (xset_ne (by omega)).trans h.2.2.2.2.2⟩
theorem X1_flatten_L (h : FwAt w a f) (hb : LsAt w b g) (hap : b + 14 ≤ a ∨ a + 6 ≤ b) : ∀ (d k n : Nat) (u : Nat → Int32), k + d = 48 → d < n →
    f_X1_flatten_L2 n a (some b) (nI k) (wT w a u) = x_ret () (wT w a ((List.range' k d).foldl (fun u c => if true = true then upd u c (seeG g c) else u) u)) := by
  intro d
  induction d with
  | zero =>
    intro k n u hk hn
    obtain ⟨n, rfl⟩ : ∃ m, n = m + 1 := ⟨n - 1, by omega⟩
    have h1 := h.sT u
    simp only [f_X1_flatten_L2, h1.g0, h1.lT, ob, oe]
    rw [if_pos (nI_le (by omega) (by omega))]
    rfl
  | succ d ih =>
    intro k n u hk hn
    obtain ⟨n, rfl⟩ : ∃ m, n = m + 1 := ⟨n - 1, by omega⟩
    have h1 := h.sT u
    have hb1 : LsAt (wT w a u) b g := hb.fr (Fr.set (A := fun q => q = a + 1) rfl) (fun q hq ha => by unfold blk at hq; omega)
    simp only [f_X1_flatten_L2, h1.g0, h1.lT, ob, oe, hb1.o, if_true, X4_see hb1 (show k < 48 by omega), x_br, ist_of h1.2.1 (show k < 48 by omega) (by omega)]
    rw [if_neg (nI_ge (by omega) (by omega)), ← nI_succ k]
    show f_X1_flatten_L2 n a (some b) (nI (k + 1)) (wT (wT w a u) a (upd u k (seeG g k))) = _
    rw [wT_wT, ih _ _ _ (by omega) (by omega), List.range'_succ]
    rfl
theorem X1_flatten (h : FwAt w a f) (hb : LsAt w b g) (hap : b + 14 ≤ a ∨ a + 6 ≤ b) :
    ∃ w' f', f_X1_flatten a (some b) w = x_ret () w' ∧ FwAt w' a f' ∧ LsAt w' b g ∧ (∀ c, c < 48 → f'.T c = seeG g c) ∧ Fr (fwc a) w w' := by
  have h1 := X1_flatten_L h hb hap 48 0 xfuel f.T (by omega) (by unfold xfuel; omega)
  rw [show wT w a f.T = w from xset_self h.2.1, fo_R, fo_upd (fun _ => true) (seeG g) f.T 48] at h1
  refine ⟨_, _, h1, h.sT _, hb.fr (Fr.set (A := fun q => q = a + 1) rfl) (fun q hq ha => by unfold blk at hq; omega), fun c hc => ?_, Fr.set ⟨by omega, by omega⟩⟩
  show (if c < 48 ∧ true = true then seeG g c else f.T c) = _
  rw [if_pos ⟨hc, rfl⟩]
theorem X1_toneAt (h : FwAt w a f) {k : Nat} (hk : k < 48) : f_X1_toneAt a (nI k) w = x_ret (f.T k) w := by
  simp only [f_X1_toneAt, h.g0, h.lT, ob, oe, h.ldT hk]
  rw [if_neg (nI_pos (by omega)), if_neg (nI_ge hk (by omega))]
theorem X1_unlike_L (h : FwAt w a f) (hb : LsAt w b g) : ∀ (d k n acc : Nat), k + d = 48 → d < n → f_X1_countCellsUnlike_L4 n a (some b) (nI acc) (nI k) w = x_ret (nI (acc + (List.range' k d).countP fun c => f.T c != seeG g c)) w := by
  intro d
  induction d with
  | zero =>
    intro k n acc hk hn
    obtain ⟨n, rfl⟩ : ∃ m, n = m + 1 := ⟨n - 1, by omega⟩
    simp only [f_X1_countCellsUnlike_L4, h.g0, h.lT, ob, oe]
    rw [if_pos (nI_le (by omega) (by omega))]
    rfl
  | succ d ih =>
    intro k n acc hk hn
    obtain ⟨n, rfl⟩ : ∃ m, n = m + 1 := ⟨n - 1, by omega⟩
    simp only [f_X1_countCellsUnlike_L4, h.g0, h.lT, ob, oe, h.ldT (show k < 48 by omega), hb.o, if_true, X4_see hb (show k < 48 by omega), x_br]
    rw [if_neg (nI_ge (by omega) (by omega)), List.range'_succ, ← nI_succ k]
    by_cases hc : f.T k = seeG g k
    · rw [if_pos hc, ih _ _ _ (by omega) (by omega), List.countP_cons_of_neg (by simp [hc])]
    · rw [if_neg hc, ← nI_succ, ih _ _ _ (by omega) (by omega), List.countP_cons_of_pos (by simp [hc])]
      congr 2
      omega
theorem X1_countCellsUnlike (h : FwAt w a f) (hb : LsAt w b g) : f_X1_countCellsUnlike a (some b) w = x_ret (nI (cnt 48 fun c => f.T c != seeG g c)) w := by
  have h1 := X1_unlike_L h hb 48 0 xfuel 0 (by omega) (by unfold xfuel; omega)
  rw [Nat.zero_add, cntR] at h1
  exact h1
theorem X1_unlikeTop_L (h : FwAt w a f) (hb : LsAt w b g) : ∀ (d k n acc : Nat), k + d = 48 → d < n → f_X1_countCellsUnlikeFromTop_L4 n a (some b) (nI acc) (nI k) w = x_ret (nI (acc + (List.range' k d).countP fun c => f.T c != seeG g c)) w := by
  intro d
  induction d with
  | zero =>
    intro k n acc hk hn
    obtain ⟨n, rfl⟩ : ∃ m, n = m + 1 := ⟨n - 1, by omega⟩
    simp only [f_X1_countCellsUnlikeFromTop_L4, h.g0, h.lT, ob, oe]
    rw [if_pos (nI_le (by omega) (by omega))]
    rfl
  | succ d ih =>
    intro k n acc hk hn
    obtain ⟨n, rfl⟩ : ∃ m, n = m + 1 := ⟨n - 1, by omega⟩
    simp only [f_X1_countCellsUnlikeFromTop_L4, h.g0, h.lT, ob, oe, h.ldT (show k < 48 by omega), hb.o, if_true, X4_toneFromTop hb (show k < 48 by omega), x_br]
    rw [if_neg (nI_ge (by omega) (by omega)), List.range'_succ, ← nI_succ k]
    by_cases hc : f.T k = seeG g k
    · rw [if_pos hc, ih _ _ _ (by omega) (by omega), List.countP_cons_of_neg (by simp [hc])]
    · rw [if_neg hc, ← nI_succ, ih _ _ _ (by omega) (by omega), List.countP_cons_of_pos (by simp [hc])]
      congr 2
      omega
theorem X1_countCellsUnlikeFromTop (h : FwAt w a f) (hb : LsAt w b g) : f_X1_countCellsUnlikeFromTop a (some b) w = x_ret (nI (cnt 48 fun c => f.T c != seeG g c)) w := by
  have h1 := X1_unlikeTop_L h hb 48 0 xfuel 0 (by omega) (by unfold xfuel; omega)
  rw [Nat.zero_add, cntR] at h1
  exact h1
theorem X1_countTone_L (h : FwAt w a f) (x : Int32) : ∀ (d k n acc : Nat), k + d = 48 → d < n → f_X1_countTone_L4 n a x (nI acc) (nI k) w = x_ret (nI (acc + (List.range' k d).countP fun c => f.T c == x)) w := by
  intro d
  induction d with
  | zero =>
    intro k n acc hk hn
    obtain ⟨n, rfl⟩ : ∃ m, n = m + 1 := ⟨n - 1, by omega⟩
    simp only [f_X1_countTone_L4, h.g0, h.lT, ob, oe]
    rw [if_pos (nI_le (by omega) (by omega))]
    rfl
  | succ d ih =>
    intro k n acc hk hn
    obtain ⟨n, rfl⟩ : ∃ m, n = m + 1 := ⟨n - 1, by omega⟩
    simp only [f_X1_countTone_L4, h.g0, h.lT, ob, oe, h.ldT (show k < 48 by omega)]
    rw [if_neg (nI_ge (by omega) (by omega)), List.range'_succ, ← nI_succ k]
    by_cases hc : f.T k = x
    · rw [if_pos hc, ← nI_succ, ih _ _ _ (by omega) (by omega), List.countP_cons_of_pos (by simp [hc])]
      congr 2
      omega
    · rw [if_neg hc, ih _ _ _ (by omega) (by omega), List.countP_cons_of_neg (by simp [hc])]
theorem X1_countTone (h : FwAt w a f) (x : Int32) : f_X1_countTone a x w = x_ret (nI (cnt 48 fun c => f.T c == x)) w := by
  have h1 := X1_countTone_L h x 48 0 xfuel 0 (by omega) (by unfold xfuel; omega)
  rw [Nat.zero_add, cntR] at h1
  exact h1
/-- how many cells have the tone nI x -/
def cntT (T : Nat → Int32) (x : Nat) : Nat := cnt 48 fun c => T c == nI x
/-- the first tone that most cells have -/
def bestF (T : Nat → Int32) (p : Nat × Nat) (x : Nat) : Nat × Nat := if cntT T x ≤ p.2 then p else (x, cntT T x)
theorem X1_most_L (h : FwAt w a f) : ∀ (d k n : Nat) (p : Nat × Nat), k + d = 16 → d < n → p.2 ≤ 48 → f_X1_mostFrequentTone_L6 n a (nI p.1) (nI p.2) (nI k) w = x_ret (nI ((List.range' k d).foldl (bestF f.T) p).1) w := by
  intro d
  induction d with
  | zero =>
    intro k n p hk hn hp
    obtain ⟨n, rfl⟩ : ∃ m, n = m + 1 := ⟨n - 1, by omega⟩
    simp only [f_X1_mostFrequentTone_L6]
    rw [if_pos (show (15 : Int32) < nI k from nI_lt (a := 15) (by omega) (by omega))]
    rfl
  | succ d ih =>
    intro k n p hk hn hp
    obtain ⟨n, rfl⟩ : ∃ m, n = m + 1 := ⟨n - 1, by omega⟩
    have hq : cntT f.T k ≤ 48 := cnt_le _ _
    simp only [f_X1_mostFrequentTone_L6, h.o, if_true, X1_countTone h, x_br]
    rw [if_neg (show ¬ (15 : Int32) < nI k from nI_nlt (b := k) (a := 15) (by omega) (by omega)), ← nI_succ k, List.range'_succ, List.foldl_cons]
    show (if nI (cntT f.T k) ≤ nI p.2 then _ else _) = _
    by_cases hc : cntT f.T k ≤ p.2
    · rw [if_pos (nI_le hc (by omega)), ih _ _ _ (by omega) (by omega) hp, show bestF f.T p k = p by simp [bestF, hc]]
    · rw [if_neg (nI_ge (by omega) (by omega)), show bestF f.T p k = (k, cntT f.T k) by simp [bestF, hc]]
      exact ih (k + 1) n (k, cntT f.T k) (by omega) (by omega) hq
theorem X1_mostFrequentTone (h : FwAt w a f) : f_X1_mostFrequentTone a w = x_ret (nI (fo 16 (bestF f.T) (0, 0)).1) w := by
  have h1 := X1_most_L h 16 0 xfuel (0, 0) (by omega) (by unfold xfuel; omega) (Nat.zero_le _)
  rw [fo_R] at h1
  exact h1
/-- the sum of a row's part, of a rectangle -/
def sumR (T : Nat → Int32) (l n y : Nat) (s : Int32) : Int32 := (List.range' l n).foldl (fun s x => s + T (8 * y + x)) s
def sumQ (T : Nat → Int32) (l n up m : Nat) (s : Int32) : Int32 := (List.range' up m).foldl (fun s y => sumR T l n y s) s
theorem X1_sum_in (h : FwAt w a f) {l r lo y : Nat} (hr : r < 8) (hy : y < 6) (K : Nat → Int32 → Int32 → Int32 → Int32 → Int32 → xW → xO Int32) : ∀ (d k n : Nat) (s : Int32), k + d = r + 1 → d < n →
    f_X1_sumCellByCell_L16 K n a (nI l) (nI r) (nI lo) s (nI y) (nI k) w = K a (nI l) (nI r) (nI lo) (sumR f.T k d y s) (nI (y + 1)) w := by
  intro d
  induction d with
  | zero =>
    intro k n s hk hn
    obtain ⟨n, rfl⟩ : ∃ m, n = m + 1 := ⟨n - 1, by omega⟩
    simp only [f_X1_sumCellByCell_L16]
    rw [if_pos (nI_lt (by omega) (by omega)), ← nI_succ]
    rfl
  | succ d ih =>
    intro k n s hk hn
    obtain ⟨n, rfl⟩ : ∃ m, n = m + 1 := ⟨n - 1, by omega⟩
    simp only [f_X1_sumCellByCell_L16, X6_cellNumber, x_br, cell_nI, h.o, if_true, X1_toneAt h (show 8 * y + k < 48 by omega)]
    rw [if_neg (nI_nlt (by omega) (by omega)), ← nI_succ k, ih _ _ _ (by omega) (by omega)]
    rfl
theorem X1_sum_out (h : FwAt w a f) {l r lo : Nat} (hl : l ≤ r) (hr : r < 8) (hlo : lo < 6) : ∀ (d k n : Nat) (s : Int32), k + d = lo + 1 → d < n →
    f_X1_sumCellByCell_L6 n a (nI l) (nI r) (nI lo) s (nI k) w = x_ret (sumQ f.T l (r + 1 - l) k d s) w := by
  intro d
  induction d with
  | zero =>
    intro k n s hk hn
    obtain ⟨n, rfl⟩ : ∃ m, n = m + 1 := ⟨n - 1, by omega⟩
    simp only [f_X1_sumCellByCell_L6]
    rw [if_pos (nI_lt (by omega) (by omega))]
    rfl
  | succ d ih =>
    intro k n s hk hn
    obtain ⟨n, rfl⟩ : ∃ m, n = m + 1 := ⟨n - 1, by omega⟩
    simp only [f_X1_sumCellByCell_L6]
    rw [if_neg (nI_nlt (by omega) (by omega)), X1_sum_in h hr (by omega) _ (r + 1 - l) l xfuel s (by omega) (by unfold xfuel; omega), ih _ _ _ (by omega) (by omega)]
    rfl
theorem X1_sumCellByCell (h : FwAt w a f) {l up r lo : Nat} (hl : l ≤ r) (hr : r < 8) (hu : up ≤ lo) (hlo : lo < 6) : f_X1_sumCellByCell a (nI l) (nI up) (nI r) (nI lo) w = x_ret (sumQ f.T l (r + 1 - l) up (lo + 1 - up) 0) w := by
  unfold f_X1_sumCellByCell
  exact X1_sum_out h hl hr hlo (lo + 1 - up) up xfuel 0 (by omega) (by unfold xfuel; omega)
theorem X1_sumOfAllCells (h : FwAt w a f) : f_X1_sumOfAllCells a w = x_ret (sumQ f.T 0 8 0 6 0) w := by
  have h1 := X1_sumCellByCell h (l := 0) (up := 0) (r := 7) (lo := 5) (by omega) (by omega) (by omega) (by omega)
  simp only [f_X1_sumOfAllCells, h.o, if_true]
  show x_bind (f_X1_sumCellByCell a (nI 0) (nI 0) (nI 7) (nI 5) w) _ = _
  rw [h1, x_br]
end X1
