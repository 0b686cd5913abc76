/-! ===== the stack of layers: what is read ===== -/
/-- a block of layers: how many, the sums, at each position its slot; by slots: modes, visible, tones -/
def WL : Type := Nat × Int32 × Int32 × (Nat → Nat) × (Nat → Int32) × (Nat → Int32) × (Nat → Nat → Int32)
def WL.n (g : WL) : Nat := g.1
def WL.ps (g : WL) : Int32 := g.2.1
def WL.es (g : WL) : Int32 := g.2.2.1
def WL.sg (g : WL) : Nat → Nat := g.2.2.2.1
def WL.md (g : WL) : Nat → Int32 := g.2.2.2.2.1
def WL.vi (g : WL) : Nat → Int32 := g.2.2.2.2.2.1
def WL.to (g : WL) : Nat → Nat → Int32 := g.2.2.2.2.2.2
def WL.mk (n : Nat) (ps es : Int32) (sg : Nat → Nat) (md vi : Nat → Int32) (to : Nat → Nat → Int32) : WL := (n, ps, es, sg, md, vi, to)
def okT (x : Int32) : Prop := x = -1 ∨ ∃ k : Nat, k < 16 ∧ x = nI k
def LsAt (w : xW) (b : Nat) (g : WL) : Prop :=
  (∃ f : Nat → Option Nat, w.2 b = some (.inr (4, [.ref (b + 1), .int (nI g.n), .int g.ps, .int g.es])) ∧ w.2 (b + 1) = some (.inl (3, 6, .inr (.inr (.inr (.inr f))))) ∧ ∀ i, i < 6 → f i = some (b + 2 + 2 * g.sg i)) ∧
  (∀ j, j < 6 → LyAt w (b + 2 + 2 * j) (g.md j) (g.vi j) (g.to j)) ∧ g.n ≤ 6 ∧ (∀ i, i < 6 → g.sg i < 6) ∧ (∀ i j, i < 6 → j < 6 → g.sg i = g.sg j → i = j) ∧
  (∀ j, j < 6 → x_nar 1 (g.md j) = g.md j ∧ x_nar 2 (g.vi j) = g.vi j) ∧ (∀ j c, j < 6 → c < 48 → okT (g.to j c))
/-- the layer at a position: mode, visible, tones -/
def WL.m (g : WL) (i : Nat) : Int32 := g.md (g.sg i)
def WL.v (g : WL) (i : Nat) : Int32 := g.vi (g.sg i)
def WL.t (g : WL) (i : Nat) : Nat → Int32 := g.to (g.sg i)
section X4
variable {w : xW} {b : Nat} {g : WL}
theorem LsAt.n6 (h : LsAt w b g) : g.n ≤ 6 := h.2.2.1
theorem LsAt.g1 (h : LsAt w b g) : x_geti w b 4 1 = some (nI g.n) := by
  obtain ⟨⟨f, h1, -⟩, -⟩ := h
  simp [x_geti, x_get, h1, x_vi]
theorem LsAt.g2 (h : LsAt w b g) : x_geti w b 4 2 = some g.ps := by
  obtain ⟨⟨f, h1, -⟩, -⟩ := h
  simp [x_geti, x_get, h1, x_vi]
theorem LsAt.g3 (h : LsAt w b g) : x_geti w b 4 3 = some g.es := by
  obtain ⟨⟨f, h1, -⟩, -⟩ := h
  simp [x_geti, x_get, h1, x_vi]
theorem LsAt.g0 (h : LsAt w b g) : x_getr w b 4 0 = some (some (b + 1)) := by
  obtain ⟨⟨f, h1, -⟩, -⟩ := h
  simp [x_getr, x_get, h1, x_vr]
theorem LsAt.o (h : LsAt w b g) : x_isO w b 4 = true := by
  obtain ⟨⟨f, h1, -⟩, -⟩ := h
  simp [x_isO, h1]
theorem LsAt.len (h : LsAt w b g) : x_len w (b + 1) = some (nI 6) := by
  obtain ⟨⟨f, h1, h2, -⟩, -⟩ := h
  simp [x_len, h2]
theorem LsAt.ld (h : LsAt w b g) {i : Nat} (hi : i < 6) : x_ald w (b + 1) 3 (nI i) = some (some (b + 2 + 2 * g.sg i)) := by
  obtain ⟨⟨f, h1, h2, h3⟩, -⟩ := h
  simp only [x_ald, h2]
  rw [if_pos ⟨trivial, nI_in (N := 6) hi (by decide)⟩, nI_clamp (by omega), h3 i hi]
/-- the layer's cells -/
theorem LsAt.ly (h : LsAt w b g) {i : Nat} (hi : i < 6) : LyAt w (b + 2 + 2 * g.sg i) (g.m i) (g.v i) (g.t i) := h.2.1 _ (h.2.2.2.1 i hi)
theorem X4_at (h : LsAt w b g) {i : Nat} (hi : i < g.n) : f_X4_at b (nI i) w = x_ret (some (b + 2 + 2 * g.sg i)) w := by
  have h6 := h.n6
  simp only [f_X4_at, h.g1, h.g0, h.len, ob, oe, h.ld (show i < 6 by omega)]
  rw [if_neg (nI_pos (by omega)), if_neg (nI_ge hi (by omega)), if_neg (nI_ge (by omega) (by omega))]
theorem X4_at_no (h : LsAt w b g) {x : Int32} (hx : x < 0 ∨ nI g.n ≤ x) : f_X4_at b x w = x_ret none w := by
  simp only [f_X4_at, h.g1, ob]
  by_cases h1 : x < 0
  · rw [if_pos h1]
  · rw [if_neg h1, if_pos (hx.resolve_left h1)]
/-- a position, or none -/
theorem pos_or {n : Nat} (hn : n < 2 ^ 31) (x : Int32) : (∃ i, i < n ∧ x = nI i) ∨ (x < 0 ∨ nI n ≤ x) := by
  by_cases h1 : x < 0
  · exact Or.inr (Or.inl h1)
  · obtain ⟨i, hi, rfl⟩ := nI_of h1
    by_cases h2 : i < n
    · exact Or.inl ⟨i, h2, rfl⟩
    · exact Or.inr (Or.inr (nI_le (by omega) hi))
/-- the tone of a cell over what is below -/
def overF (g : WL) (c : Nat) (x : Int32) (i : Nat) : Int32 := if g.v i = 0 ∨ g.t i c = -1 then x else blendG (g.m i) x (g.t i c)
theorem X4_toneFrom_L (h : LsAt w b g) {c : Nat} (hc : c < 48) : ∀ (d k n : Nat) (x : Int32), k + d = g.n → d < n → f_X4_toneFrom_L6 n b (nI c) x (nI k) w = x_ret ((List.range' k d).foldl (overF g c) x) w := by
  have h6 := h.n6
  intro d
  induction d with
  | zero =>
    intro k n x hk hn
    obtain ⟨n, rfl⟩ : ∃ m, n = m + 1 := ⟨n - 1, by omega⟩
    simp only [f_X4_toneFrom_L6, h.g1, ob]
    rw [if_pos (nI_le (by omega) (by omega))]
    rfl
  | succ d ih =>
    intro k n x hk hn
    obtain ⟨n, rfl⟩ : ∃ m, n = m + 1 := ⟨n - 1, by omega⟩
    have hl := h.ly (show k < 6 by omega)
    simp only [f_X4_toneFrom_L6, h.g1, ob, h.o, if_true, X4_at h (show k < g.n by omega), x_br, oe, hl.o, X3_toneOver hl hc]
    rw [if_neg (nI_ge (by omega) (by omega)), ← nI_succ k, ih _ _ _ (by omega) (by omega), List.range'_succ]
    rfl
theorem X4_toneFrom (h : LsAt w b g) {c lo : Nat} (hc : c < 48) (hlo : lo ≤ g.n) : f_X4_toneFrom b (nI lo) (nI c) w = x_ret ((List.range' lo (g.n - lo)).foldl (overF g c) 15) w := by
  have h6 := h.n6
  unfold f_X4_toneFrom
  exact X4_toneFrom_L h hc (g.n - lo) lo xfuel 15 (by omega) (by unfold xfuel; omega)
/-- what is seen -/
def seeG (g : WL) (c : Nat) : Int32 := fo g.n (overF g c) 15
theorem X4_see (h : LsAt w b g) {c : Nat} (hc : c < 48) : f_X4_toneFrom b 0 (nI c) w = x_ret (seeG g c) w := by
  have h1 := X4_toneFrom h hc (Nat.zero_le _)
  rw [Nat.sub_zero, fo_R] at h1
  exact h1
theorem X4_countVisible_L (h : LsAt w b g) : ∀ (d k n acc : Nat), k + d = g.n → d < n → f_X4_countVisible_L4 n b (nI acc) (nI k) w = x_ret (nI (acc + (List.range' k d).countP fun i => g.v i != 0)) w := by
  have h6 := h.n6
  intro d
  induction d with
  | zero =>
    intro k n acc hk hn
    obtain ⟨n, rfl⟩ : ∃ m, n = m + 1 := ⟨n - 1, by omega⟩
    simp only [f_X4_countVisible_L4, h.g1, ob]
    rw [if_pos (nI_le (by omega) (by omega))]
    rfl
  | succ d ih =>
    intro k n acc hk hn
    obtain ⟨n, rfl⟩ : ∃ m, n = m + 1 := ⟨n - 1, by omega⟩
    have hl := h.ly (show k < 6 by omega)
    simp only [f_X4_countVisible_L4, h.g1, ob, h.o, if_true, X4_at h (show k < g.n by omega), x_br, oe, hl.g1]
    rw [if_neg (nI_ge (by omega) (by omega)), ← nI_succ k, List.range'_succ]
    by_cases hc : g.v k = 0
    · rw [if_pos hc, ih _ _ _ (by omega) (by omega), List.countP_cons_of_neg (by simp [hc])]
    · rw [if_neg hc, ← nI_succ, ih _ _ _ (by omega) (by omega), List.countP_cons_of_pos (by simp [hc])]
      congr 2
      omega
theorem X4_countVisible (h : LsAt w b g) : f_X4_countVisible b w = x_ret (nI (cnt g.n fun i => g.v i != 0)) w := by
  have h1 := X4_countVisible_L h g.n 0 xfuel 0 (by omega) (by have := h.n6; unfold xfuel; omega)
  rw [Nat.zero_add, cntR] at h1
  exact h1
/-- does the layer cover the cell -/
def covG (g : WL) (c i : Nat) : Bool := !decide (g.v i = 0 ∨ g.t i c = -1)
theorem cov_if {g : WL} {c i : Nat} : (if g.v i = 0 ∨ g.t i c = -1 then (0 : Int32) else 1) = if covG g c i = true then 1 else 0 := by
  by_cases h : g.v i = 0 ∨ g.t i c = -1 <;> simp [covG, h]
theorem X4_countCovering_L (h : LsAt w b g) {c : Nat} (hc : c < 48) : ∀ (d k n acc : Nat), k + d = g.n → d < n → f_X4_countCovering_L4 n b (nI c) (nI acc) (nI k) w = x_ret (nI (acc + (List.range' k d).countP (covG g c))) w := by
  have h6 := h.n6
  intro d
  induction d with
  | zero =>
    intro k n acc hk hn
    obtain ⟨n, rfl⟩ : ∃ m, n = m + 1 := ⟨n - 1, by omega⟩
    simp only [f_X4_countCovering_L4, h.g1, ob]
    rw [if_pos (nI_le (by omega) (by omega))]
    rfl
  | succ d ih =>
    intro k n acc hk hn
    obtain ⟨n, rfl⟩ : ∃ m, n = m + 1 := ⟨n - 1, by omega⟩
    have hl := h.ly (show k < 6 by omega)
    simp only [f_X4_countCovering_L4, h.g1, ob, h.o, if_true, X4_at h (show k < g.n by omega), x_br, oe, hl.o, X3_covers hl hc, cov_if]
    rw [if_neg (nI_ge (by omega) (by omega)), ← nI_succ k, List.range'_succ]
    by_cases hv : covG g c k = true
    · rw [if_pos hv, if_neg (by decide), ← nI_succ, ih _ _ _ (by omega) (by omega), List.countP_cons_of_pos hv]
      congr 2
      omega
    · rw [if_neg hv, if_pos rfl, ih _ _ _ (by omega) (by omega), List.countP_cons_of_neg hv]
theorem X4_countCovering (h : LsAt w b g) {c : Nat} (hc : c < 48) : f_X4_countCovering b (nI c) w = x_ret (nI (cnt g.n (covG g c))) w := by
  have h1 := X4_countCovering_L h hc g.n 0 xfuel 0 (by omega) (by have := h.n6; unfold xfuel; omega)
  rw [Nat.zero_add, cntR] at h1
  exact h1
theorem X4_countCoveredCells_L (h : LsAt w b g) : ∀ (d k n acc : Nat), k + d = 48 → d < n → f_X4_countCoveredCells_L4 n b (nI acc) (nI k) w = x_ret (nI (acc + (List.range' k d).countP fun c => decide (0 < cnt g.n (covG g c)))) w := by
  have h6 := h.n6
  intro d
  induction d with
  | zero =>
    intro k n acc hk hn
    obtain ⟨n, rfl⟩ : ∃ m, n = m + 1 := ⟨n - 1, by omega⟩
    simp only [f_X4_countCoveredCells_L4]
    rw [if_pos (show (48 : Int32) ≤ nI k from nI_le (a := 48) (by omega) (by omega))]
    rfl
  | succ d ih =>
    intro k n acc hk hn
    obtain ⟨n, rfl⟩ : ∃ m, n = m + 1 := ⟨n - 1, by omega⟩
    have hq := cnt_le g.n (covG g k)
    simp only [f_X4_countCoveredCells_L4, h.o, if_true, X4_countCovering h (show k < 48 by omega), x_br]
    rw [if_neg (show ¬ (48 : Int32) ≤ nI k from nI_ge (b := 48) (by omega) (by omega)), ← nI_succ k, List.range'_succ]
    by_cases hc : 0 < cnt g.n (covG g k)
    · rw [if_neg (nI_nle hc (by omega)), ← nI_succ, ih _ _ _ (by omega) (by omega), List.countP_cons_of_pos (by simp [hc])]
      congr 2
      omega
    · rw [show cnt g.n (covG g k) = 0 by omega, if_pos (show nI 0 ≤ 0 from nI_le (b := 0) (by omega) (by omega)), ih _ _ _ (by omega) (by omega), List.countP_cons_of_neg (by simp; omega)]
theorem X4_countCoveredCells (h : LsAt w b g) : f_X4_countCoveredCells b w = x_ret (nI (cnt 48 fun c => decide (0 < cnt g.n (covG g c)))) w := by
  have h1 := X4_countCoveredCells_L h 48 0 xfuel 0 (by omega) (by unfold xfuel; omega)
  rw [Nat.zero_add, cntR] at h1
  exact h1
/-- from the top down, the first that .. -/
def topG (p : Nat → Bool) : Nat → Option Nat
  | 0 => none
  | k + 1 => if p k then some k else topG p k
theorem nI_down (k : Nat) : nI (k + 1) - 1 = nI k := nI_pred k
theorem nI_dn (k : Nat) : nI (k + 1) + (-1) = nI k := by
  have h := nI_pred k
  rw [Int32.sub_eq_add_neg] at h
  exact h
theorem nI_dn0 : nI 0 + (-1) = -1 := by decide
theorem X4_upper_L (h : LsAt w b g) {c : Nat} (hc : c < 48) : ∀ (k n : Nat), k ≤ g.n → k < n → f_X4_uppermostCovering_L7 n b (nI c) (nI k + (-1)) w = x_ret ((topG (covG g c) k).elim (-1) nI) w := by
  have h6 := h.n6
  intro k
  induction k with
  | zero =>
    intro n hk hn
    obtain ⟨n, rfl⟩ : ∃ m, n = m + 1 := ⟨n - 1, by omega⟩
    rw [nI_dn0]
    simp only [f_X4_uppermostCovering_L7]
    rw [if_pos (by decide)]
    rfl
  | succ k ih =>
    intro n hk hn
    obtain ⟨n, rfl⟩ : ∃ m, n = m + 1 := ⟨n - 1, by omega⟩
    rw [nI_dn]
    have hl := h.ly (show k < 6 by omega)
    simp only [f_X4_uppermostCovering_L7, h.o, if_true, X4_at h (show k < g.n by omega), x_br, oe, hl.o, X3_covers hl hc, cov_if]
    rw [if_neg (nI_pos (by omega))]
    by_cases hv : covG g c k = true
    · rw [if_pos hv, if_neg (by decide)]
      simp [topG, hv]
    · rw [if_neg hv, if_pos rfl, ih _ (by omega) (by omega)]
      simp [topG, hv]
theorem X4_uppermostCovering (h : LsAt w b g) {c : Nat} (hc : c < 48) : f_X4_uppermostCovering b (nI c) w = x_ret ((topG (covG g c) g.n).elim (-1) nI) w := by
  simp only [f_X4_uppermostCovering, h.g1, ob]
  rw [Int32.sub_eq_add_neg]
  exact X4_upper_L h hc g.n xfuel (Nat.le_refl _) (by have := h.n6; unfold xfuel; omega)
end X4
