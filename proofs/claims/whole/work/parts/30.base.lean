/-! ===== second half: what the functions of worlds compute ===== -/
/-- only cells of A have changed, and none is new -/
def Fr (A : Nat → Prop) (w w' : xW) : Prop := w'.1 = w.1 ∧ ∀ q, ¬ A q → w'.2 q = w.2 q
theorem Fr.rf {A : Nat → Prop} {w : xW} : Fr A w w := ⟨rfl, fun _ _ => rfl⟩
theorem Fr.tr {A : Nat → Prop} {u v w : xW} (h : Fr A u v) (g : Fr A v w) : Fr A u w := ⟨g.1.trans h.1, fun q hq => (g.2 q hq).trans (h.2 q hq)⟩
theorem Fr.mono {A B : Nat → Prop} {u v : xW} (h : Fr A u v) (hAB : ∀ q, A q → B q) : Fr B u v := ⟨h.1, fun q hq => h.2 q (fun ha => hq (hAB q ha))⟩
theorem Fr.set {A : Nat → Prop} {w : xW} {a : Nat} {e : xE} (h : A a) : Fr A w (xset w a e) := ⟨rfl, fun q hq => by
  show (if q = a then some e else w.2 q) = w.2 q
  exact if_neg (fun hc : q = a => hq (by rw [hc]; exact h))⟩
theorem xset_at (w : xW) (a : Nat) (e : xE) : (xset w a e).2 a = some e := by simp [xset]
theorem xset_ne {w : xW} {a q : Nat} {e : xE} (h : q ≠ a) : (xset w a e).2 q = w.2 q := by simp [xset, h]
theorem xset_1 (w : xW) (a : Nat) (e : xE) : (xset w a e).1 = w.1 := rfl
theorem x_br {α β : Type} (v : α) (w : xW) (k : α → xW → xO β) : x_bind (x_ret v w) k = k v w := rfl
theorem x_bt {α β : Type} (E : String) (w : xW) (k : α → xW → xO β) : x_bind (x_thr E w) k = x_thr E w := rfl
theorem x_tr {α β : Type} (v : α) (w : xW) (k : α → xW → xO β) (h : String → xW → xO β) : x_try (x_ret v w) k h = k v w := rfl
theorem x_tt {α β : Type} (E : String) (w : xW) (k : α → xW → xO β) (h : String → xW → xO β) : x_try (x_thr E w : xO α) k h = h E (w.1 + 1, w.2) := rfl
theorem ob {α β : Type} (x : α) (k : α → Option β) : (some x).bind k = k x := rfl
theorem oe {α β : Type} (x : α) (b : β) (k : α → β) : (some x).elim b k = k x := rfl
theorem oen {α β : Type} (b : β) (k : α → β) : (none : Option α).elim b k = b := rfl
/-- a layer: its mode, whether it is visible, its tones (-1: none) -/
def LyAt (w : xW) (a : Nat) (md vi : Int32) (t : Nat → Int32) : Prop := w.2 a = some (.inr (3, [.int md, .int vi, .ref (a + 1)])) ∧ w.2 (a + 1) = some (.inl (0, 48, .inl t))
section LY
variable {w : xW} {a : Nat} {md vi : Int32} {t : Nat → Int32}
theorem LyAt.g0 (h : LyAt w a md vi t) : x_geti w a 3 0 = some md := by simp [x_geti, x_get, h.1, x_vi]
theorem LyAt.g1 (h : LyAt w a md vi t) : x_geti w a 3 1 = some vi := by simp [x_geti, x_get, h.1, x_vi]
theorem LyAt.g2 (h : LyAt w a md vi t) : x_getr w a 3 2 = some (some (a + 1)) := by simp [x_getr, x_get, h.1, x_vr]
theorem LyAt.o (h : LyAt w a md vi t) : x_isO w a 3 = true := by simp [x_isO, h.1]
theorem LyAt.len (h : LyAt w a md vi t) : x_len w (a + 1) = some (nI 48) := by simp [x_len, h.2]
theorem LyAt.ld (h : LyAt w a md vi t) {k : Nat} (hk : k < 48) : x_ild w (a + 1) 0 (nI k) = some (t k) := by
  have h1 := nI_in (N := 48) hk (by decide)
  have h2 : (nI k).toNatClampNeg = k := nI_clamp (by omega)
  simp only [x_ild, h.2]
  rw [if_pos ⟨trivial, h1⟩, h2]
theorem LyAt.st (h : LyAt w a md vi t) {k : Nat} (hk : k < 48) (x : Int32) : x_ist w (a + 1) 0 (nI k) x = some (xset w (a + 1) (.inl (0, 48, .inl (upd t k x)))) := by
  have h1 := nI_in (N := 48) hk (by decide)
  have h2 : (nI k).toNatClampNeg = k := nI_clamp (by omega)
  simp only [x_ist, h.2]
  rw [if_pos ⟨trivial, h1⟩, h2]
  rfl
theorem LyAt.p0 (h : LyAt w a md vi t) (x : Int32) : x_put w a 3 0 (.int x) = some (xset w a (.inr (3, [.int x, .int vi, .ref (a + 1)]))) := by simp [x_put, h.1]
theorem LyAt.p1 (h : LyAt w a md vi t) (x : Int32) : x_put w a 3 1 (.int x) = some (xset w a (.inr (3, [.int md, .int x, .ref (a + 1)]))) := by simp [x_put, h.1]
theorem LyAt.s0 (h : LyAt w a md vi t) (x y : Int32) : LyAt (xset w a (.inr (3, [.int x, .int y, .ref (a + 1)]))) a x y t := ⟨xset_at _ _ _, (xset_ne (by omega)).trans h.2⟩
theorem LyAt.s1 (h : LyAt w a md vi t) (u : Nat → Int32) : LyAt (xset w (a + 1) (.inl (0, 48, .inl u))) a md vi u := ⟨(xset_ne (by omega)).trans h.1, xset_at _ _ _⟩
theorem LyAt.fr (h : LyAt w a md vi t) {A : Nat → Prop} {w' : xW} (hf : Fr A w w') (h0 : ¬ A a) (h1 : ¬ A (a + 1)) : LyAt w' a md vi t := ⟨(hf.2 _ h0).trans h.1, (hf.2 _ h1).trans h.2⟩
end LY
theorem nI_clt {a b : Nat} (ha : a < 2 ^ 31) (hb : b < 2 ^ 31) : (nI a < nI b) = (a < b) := propext (nI_ltI ha hb)
theorem nI_cle {a b : Nat} (ha : a < 2 ^ 31) (hb : b < 2 ^ 31) : (nI a ≤ nI b) = (a ≤ b) := propext (nI_leI ha hb)
theorem nI_ceq {a b : Nat} (ha : a < 2 ^ 31) (hb : b < 2 ^ 31) : (nI a = nI b) = (a = b) := propext (nI_eq ha hb)
/-- how many of the cells have the property -/
def cnt (n : Nat) (p : Nat → Bool) : Nat := (List.range n).countP p
theorem cnt_le (n : Nat) (p : Nat → Bool) : cnt n p ≤ n := by
  unfold cnt
  exact Nat.le_trans List.countP_le_length (by simp)
theorem cnt_congr {n : Nat} {p q : Nat → Bool} (h : ∀ k, k < n → p k = q k) : cnt n p = cnt n q := by
  unfold cnt
  exact List.countP_congr (fun k hk => by rw [h k (List.mem_range.mp hk)])
theorem cntR (n : Nat) (p : Nat → Bool) : (List.range' 0 n).countP p = cnt n p := by rw [← List.range_eq_range']; rfl
/-! ===== a layer's methods ===== -/
section X3
variable {w : xW} {a : Nat} {md vi : Int32} {t : Nat → Int32}
theorem X3_countTones_L (h : LyAt w a md vi t) : ∀ (d k n acc : Nat), k + d = 48 → d < n → f_X3_countTones_L4 n a (nI acc) (nI k) w = x_ret (nI (acc + (List.range' k d).countP fun c => t c != -1)) w := by
  intro d
  induction d with
  | zero =>
    intro k n acc hk hn
    obtain ⟨n, rfl⟩ : ∃ m, n = m + 1 := ⟨n - 1, by omega⟩
    simp only [f_X3_countTones_L4, h.g2, h.len, ob, oe]
    rw [if_pos (nI_le (by omega) (by omega))]
    rfl
  | succ d ih =>
    intro k n acc hk hn
    obtain ⟨n, rfl⟩ : ∃ m, n = m + 1 := ⟨n - 1, by omega⟩
    simp only [f_X3_countTones_L4, h.g2, h.len, ob, oe, h.ld (show k < 48 by omega)]
    rw [if_neg (nI_ge (by omega) (by omega)), List.range'_succ, ← nI_succ k]
    by_cases hc : t k = -1
    · rw [if_pos hc, ih _ _ _ (by omega) (by omega), List.countP_cons_of_neg (by simp [hc])]
    · rw [if_neg hc, ← nI_succ, ih _ _ _ (by omega) (by omega), List.countP_cons_of_pos (by simp [hc])]
      congr 2
      omega
theorem X3_countTones (h : LyAt w a md vi t) : f_X3_countTones a w = x_ret (nI (cnt 48 fun c => t c != -1)) w := by
  have h1 := X3_countTones_L h 48 0 xfuel 0 (by omega) (by unfold xfuel; omega)
  rw [Nat.zero_add, cntR] at h1
  exact h1
theorem X3_toneAt (h : LyAt w a md vi t) {k : Nat} (hk : k < 48) : f_X3_toneAt a (nI k) w = x_ret (t k) w := by
  simp only [f_X3_toneAt, h.g2, h.len, ob, oe, h.ld hk]
  rw [if_neg (nI_pos (by omega)), if_neg (nI_ge hk (by omega))]
theorem X3_setTone (h : LyAt w a md vi t) {k : Nat} (hk : k < 48) (x : Int32) : f_X3_setTone a (nI k) x w = x_ret () (xset w (a + 1) (.inl (0, 48, .inl (upd t k x)))) := by
  simp only [f_X3_setTone, h.g2, h.len, ob, oe, h.st hk]
  rw [if_neg (nI_pos (by omega)), if_neg (nI_ge hk (by omega))]
theorem X3_covers (h : LyAt w a md vi t) {k : Nat} (hk : k < 48) : f_X3_covers a (nI k) w = x_ret (if vi = 0 ∨ t k = -1 then 0 else 1) w := by
  simp only [f_X3_covers, h.g1, h.o, ob, X3_toneAt h hk, x_br, if_true]
  by_cases h1 : vi = 0
  · simp [h1]
  · by_cases h2 : t k = -1
    · simp [h1, h2]
    · simp [h1, h2]
theorem X3_hides (h : LyAt w a md vi t) {k : Nat} (hk : k < 48) : f_X3_hides a (nI k) w = x_ret (if md = 110 ∧ ¬ (vi = 0 ∨ t k = -1) then 1 else 0) w := by
  simp only [f_X3_hides, h.g0, h.o, ob, X3_covers h hk, x_br, if_true]
  by_cases h1 : md = 110
  · by_cases h2 : vi = 0 ∨ t k = -1
    · simp [h1, h2]
    · simp [h1, h2]
  · simp [h1]
theorem X3_canBeMerged (h : LyAt w a md vi t) : f_X3_canBeMerged a w = x_ret (if md = 110 ∧ ¬ vi = 0 then 1 else 0) w := by
  simp only [f_X3_canBeMerged, h.g0, h.g1, ob]
  by_cases h1 : md = 110
  · by_cases h2 : vi = 0
    · simp [h1, h2]
    · simp [h1, h2]
  · simp [h1]
end X3
