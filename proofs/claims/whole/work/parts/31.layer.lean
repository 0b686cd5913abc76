/-! ===== a layer's methods that write, and the wall's ===== -/
/-- the blending of two tones -/
def blendG (md b t : Int32) : Int32 := if md = 97 then (b + t) / 2 else if md = 100 then (if t < b then t else b) else if md = 108 then (if b < t then t else b) else if md = 109 then b * t / 15 else if md = 115 then 15 - (15 - b) * (15 - t) / 15 else t
theorem J9_min (x y : Int32) (w : xW) : f_J9_min_7cf53 x y w = x_ret (if y < x then y else x) w := by
  unfold f_J9_min_7cf53
  split <;> rfl
theorem J9_max (x y : Int32) (w : xW) : f_J9_max_7cf53 x y w = x_ret (if x < y then y else x) w := by
  unfold f_J9_max_7cf53
  split <;> rfl
theorem blend_min (b t : Int32) (w : xW) : (if t ≤ b then (x_ret t w : xO Int32) else x_ret b w) = x_ret (if t < b then t else b) w := by
  by_cases h : t < b
  · rw [if_pos h, if_pos (Int32.le_of_lt h)]
  · rw [if_neg h]
    by_cases h2 : t ≤ b
    · rw [if_pos h2, Int32.le_antisymm h2 (Int32.not_lt.mp h)]
    · rw [if_neg h2]
theorem blend_max (b t : Int32) (w : xW) : (if b ≤ t then (x_ret t w : xO Int32) else x_ret b w) = x_ret (if b < t then t else b) w := by
  by_cases h : b < t
  · rw [if_pos h, if_pos (Int32.le_of_lt h)]
  · rw [if_neg h]
    by_cases h2 : b ≤ t
    · rw [if_pos h2, Int32.le_antisymm h2 (Int32.not_lt.mp h)]
    · rw [if_neg h2]
theorem X6_blend (md b t : Int32) (w : xW) : f_X6_blend md b t w = x_ret (blendG md b t) w := by
  unfold f_X6_blend blendG
  rw [blend_min, blend_max]
  by_cases h1 : md = 97
  · rw [if_pos h1, if_pos h1]
  rw [if_neg h1, if_neg h1]
  by_cases h2 : md = 100
  · rw [if_pos h2, if_pos h2]
  rw [if_neg h2, if_neg h2]
  by_cases h3 : md = 108
  · rw [if_pos h3, if_pos h3]
  rw [if_neg h3, if_neg h3]
  by_cases h4 : md = 109
  · rw [if_pos h4, if_pos h4]
  rw [if_neg h4, if_neg h4]
  by_cases h5 : md = 115
  · rw [if_pos h5, if_pos h5]
  rw [if_neg h5, if_neg h5]
/-- a layer with other tones -/
abbrev wT (w : xW) (a : Nat) (u : Nat → Int32) : xW := xset w (a + 1) (.inl (0, 48, .inl u))
theorem xset_set (w : xW) (a : Nat) (e e' : xE) : xset (xset w a e) a e' = xset w a e' := by
  unfold xset
  congr 1
  funext q
  by_cases h : q = a <;> simp [h]
theorem xset_self {w : xW} {a : Nat} {e : xE} (h : w.2 a = some e) : xset w a e = w := by
  obtain ⟨n, f⟩ := w
  unfold xset
  congr 1
  funext q
  by_cases hq : q = a
  · subst hq; simp; exact h.symm
  · simp [hq]
theorem wT_wT (w : xW) (a : Nat) (u v : Nat → Int32) : wT (wT w a u) a v = wT w a v := xset_set _ _ _ _
/-- as many places as may be, one after the other -/
def fo {σ : Type} (n : Nat) (f : σ → Nat → σ) (s : σ) : σ := (List.range n).foldl f s
theorem fo_R {σ : Type} (n : Nat) (f : σ → Nat → σ) (s : σ) : (List.range' 0 n).foldl f s = fo n f s := by rw [← List.range_eq_range']; rfl
theorem fo_succ {σ : Type} (n : Nat) (f : σ → Nat → σ) (s : σ) : fo (n + 1) f s = f (fo n f s) n := by unfold fo; rw [List.range_succ, List.foldl_append]; rfl
theorem fo_zero {σ : Type} (f : σ → Nat → σ) (s : σ) : fo 0 f s = s := rfl
/-- two foldings side by side -/
theorem fo_rel {σ τ : Type} (R : Nat → σ → τ → Prop) {f : σ → Nat → σ} {g : τ → Nat → τ} {s : σ} {t : τ} : ∀ n : Nat, R 0 s t → (∀ k s t, k < n → R k s t → R (k + 1) (f s k) (g t k)) → R n (fo n f s) (fo n g t)
  | 0, h, _ => h
  | n + 1, h, hs => by
    rw [fo_succ, fo_succ]
    exact hs n _ _ (Nat.lt_succ_self n) (fo_rel R n h (fun k s t hk => hs k s t (Nat.lt_succ_of_lt hk)))
/-- writing place after place -/
theorem fo_upd (p : Nat → Bool) (v : Nat → Int32) (t : Nat → Int32) : ∀ n : Nat, fo n (fun u c => if p c then upd u c (v c) else u) t = fun c => if c < n ∧ p c = true then v c else t c
  | 0 => by funext c; simp [fo_zero]
  | n + 1 => by
    rw [fo_succ, fo_upd p v t n]
    funext c
    by_cases hp : p n = true
    · by_cases hc : c = n
      · subst hc; simp [hp, upd]
      · have : (c < n + 1) = (c < n) := propext ⟨fun h => by omega, fun h => by omega⟩
        simp [hp, upd, hc, this]
    · by_cases hc : c = n
      · subst hc; simp [hp]
      · have : (c < n + 1) = (c < n) := propext ⟨fun h => by omega, fun h => by omega⟩
        simp [hp, this]
section X3w
variable {w : xW} {a b : Nat} {md vi : Int32} {t : Nat → Int32} {md' vi' : Int32} {t' : Nat → Int32}
theorem X3_toneOver (h : LyAt w a md vi t) {k : Nat} (hk : k < 48) (x : Int32) : f_X3_toneOver a x (nI k) w = x_ret (if vi = 0 ∨ t k = -1 then x else blendG md x (t k)) w := by
  simp only [f_X3_toneOver, h.g0, h.g1, h.o, ob, X3_toneAt h hk, x_br, if_true, X6_blend]
  by_cases h1 : vi = 0
  · simp [h1]
  · by_cases h2 : t k = -1
    · simp [h1, h2]
    · simp [h1, h2]
theorem LyAt.wT (h : LyAt w a md vi t) (u : Nat → Int32) : LyAt (wT w a u) a md vi u := h.s1 u
theorem LyAt.wT' (h : LyAt w b md vi t) (u : Nat → Int32) (h0 : b ≠ a + 1) (h1 : b ≠ a) : LyAt (_root_.Jvm.Pilot.@@N@@.wT w a u) b md vi t := ⟨(xset_ne h0).trans h.1, (xset_ne (by omega)).trans h.2⟩
theorem J7_fill_L (h : LyAt w a md vi t) (x : Int32) : ∀ (d k n : Nat) (u : Nat → Int32), k + d = 48 → d < n → f_J7_fill_53178_L5 n (some (a + 1)) x (nI k) (nI 48) (wT w a u) = x_ret () (wT w a ((List.range' k d).foldl (fun u c => if true = true then upd u c x else u) u)) := by
  intro d
  induction d with
  | zero =>
    intro k n u hk hn
    obtain ⟨n, rfl⟩ : ∃ m, n = m + 1 := ⟨n - 1, by omega⟩
    simp only [f_J7_fill_53178_L5]
    rw [if_pos (nI_le (by omega) (by omega))]
    rfl
  | succ d ih =>
    intro k n u hk hn
    obtain ⟨n, rfl⟩ : ∃ m, n = m + 1 := ⟨n - 1, by omega⟩
    simp only [f_J7_fill_53178_L5, oe, (h.wT u).st (show k < 48 by omega), ob]
    rw [if_neg (nI_ge (by omega) (by omega)), ← nI_succ k]
    show f_J7_fill_53178_L5 n (some (a + 1)) x (nI (k + 1)) (nI 48) (Jvm.Pilot.@@N@@.wT (Jvm.Pilot.@@N@@.wT w a u) a (upd u k x)) = _
    rw [wT_wT, ih _ _ _ (by omega) (by omega), List.range'_succ]
    rfl
theorem X3_begin (h : LyAt w a md vi t) {x : Int32} (hx : x_nar 1 x = x) : f_X3_begin a x w = x_ret () (wT (xset w a (.inr (3, [.int x, .int 1, .ref (a + 1)]))) a (fun c => if c < 48 then -1 else t c)) := by
  have h0 := h.s0 x vi
  have h1 := h.s0 x 1
  have e1 : xset (xset w a (.inr (3, [.int x, .int vi, .ref (a + 1)]))) a (.inr (3, [.int x, .int 1, .ref (a + 1)])) = xset w a (.inr (3, [.int x, .int 1, .ref (a + 1)])) := xset_set _ _ _ _
  simp only [f_X3_begin, hx, if_true, h.p0 x, ob, h0.p1 1, e1, h1.g2, f_J7_fill_53178, oe, h1.len]
  have h2 := J7_fill_L h1 (-1) 48 0 xfuel t (by omega) (by unfold xfuel; omega)
  rw [show wT (xset w a (.inr (3, [.int x, .int 1, .ref (a + 1)]))) a t = xset w a (.inr (3, [.int x, .int 1, .ref (a + 1)])) from xset_self h1.2, fo_R, fo_upd (fun _ => true) (fun _ => -1) t 48] at h2
  rw [show (0 : Int32) = nI 0 from rfl, h2, x_br]
  simp
theorem X3_copyFrom (h : LyAt w a md vi t) (h' : LyAt w b md' vi' t') (hab : a ≠ b) (hab1 : a ≠ b + 1) (hba : b ≠ a + 1) (hm : x_nar 1 md' = md') (hv : x_nar 2 vi' = vi') :
    f_X3_copyFrom a (some b) w = x_ret () (wT (xset w a (.inr (3, [.int md', .int vi', .ref (a + 1)]))) a (va_cpy t' t 0 0 48)) := by
  have h0 := h.s0 md' vi
  have h1 := h.s0 md' vi'
  have e1 : xset (xset w a (.inr (3, [.int md', .int vi, .ref (a + 1)]))) a (.inr (3, [.int md', .int vi', .ref (a + 1)])) = xset w a (.inr (3, [.int md', .int vi', .ref (a + 1)])) := xset_set _ _ _ _
  have g0 : LyAt (xset w a (.inr (3, [.int md', .int vi, .ref (a + 1)]))) b md' vi' t' := ⟨(xset_ne (by omega)).trans h'.1, (xset_ne (by omega)).trans h'.2⟩
  have g1 : LyAt (xset w a (.inr (3, [.int md', .int vi', .ref (a + 1)]))) b md' vi' t' := ⟨(xset_ne (by omega)).trans h'.1, (xset_ne (by omega)).trans h'.2⟩
  simp only [f_X3_copyFrom, oe, h'.g0, ob, hm, if_true, h.p0, g0.g1, hv, h0.p1, e1, g1.g2, h1.g2]
  simp only [x_cpy, g1.2, h1.2]
  rfl
theorem X3_countCellsUnlike_L (h : LyAt w a md vi t) (h' : LyAt w b md' vi' t') : ∀ (d k n acc : Nat), k + d = 48 → d < n → f_X3_countCellsUnlike_L4 n a (some b) (nI acc) (nI k) w = x_ret (nI (acc + (List.range' k d).countP fun c => t c != t' c)) w := by
  intro d
  induction d with
  | zero =>
    intro k n acc hk hn
    obtain ⟨n, rfl⟩ : ∃ m, n = m + 1 := ⟨n - 1, by omega⟩
    simp only [f_X3_countCellsUnlike_L4, h.g2, h.len, ob, oe]
    rw [if_pos (nI_le (by omega) (by omega))]
    rfl
  | succ d ih =>
    intro k n acc hk hn
    obtain ⟨n, rfl⟩ : ∃ m, n = m + 1 := ⟨n - 1, by omega⟩
    simp only [f_X3_countCellsUnlike_L4, h.g2, h.len, ob, oe, h.ld (show k < 48 by omega), h'.o, if_true, X3_toneAt h' (show k < 48 by omega), x_br]
    rw [if_neg (nI_ge (by omega) (by omega)), List.range'_succ, ← nI_succ k]
    by_cases hc : t k = t' k
    · rw [if_pos hc, ih _ _ _ (by omega) (by omega), List.countP_cons_of_neg (by simp [hc])]
    · rw [if_neg hc, ← nI_succ, ih _ _ _ (by omega) (by omega), List.countP_cons_of_pos (by simp [hc])]
      congr 2
      omega
theorem X3_countCellsUnlike (h : LyAt w a md vi t) (h' : LyAt w b md' vi' t') : f_X3_countCellsUnlike a (some b) w = x_ret (nI (cnt 48 fun c => t c != t' c)) w := by
  have h1 := X3_countCellsUnlike_L h h' 48 0 xfuel 0 (by omega) (by unfold xfuel; omega)
  rw [Nat.zero_add, cntR] at h1
  exact h1
theorem X3_coverWith_L (h : LyAt w a md vi t) (h' : LyAt w b md' vi' t') (hba : b ≠ a + 1) (hab : b ≠ a) : ∀ (d k n : Nat) (u : Nat → Int32), k + d = 48 → d < n → f_X3_coverWith_L2 n a (some b) (nI k) (wT w a u) = x_ret () (wT w a ((List.range' k d).foldl (fun u c => if (t' c != -1) = true then upd u c (t' c) else u) u)) := by
  intro d
  induction d with
  | zero =>
    intro k n u hk hn
    obtain ⟨n, rfl⟩ : ∃ m, n = m + 1 := ⟨n - 1, by omega⟩
    simp only [f_X3_coverWith_L2, (h.wT u).g2, (h.wT u).len, ob, oe]
    rw [if_pos (nI_le (by omega) (by omega))]
    rfl
  | succ d ih =>
    intro k n u hk hn
    obtain ⟨n, rfl⟩ : ∃ m, n = m + 1 := ⟨n - 1, by omega⟩
    have h2 := h'.wT' u hba hab
    simp only [f_X3_coverWith_L2, (h.wT u).g2, (h.wT u).len, ob, oe, h2.o, if_true, X3_toneAt h2 (show k < 48 by omega), x_br, (h.wT u).st (show k < 48 by omega)]
    rw [if_neg (nI_ge (by omega) (by omega)), ← nI_succ k, List.range'_succ]
    by_cases hc : t' k = -1
    · rw [if_pos hc, ih _ _ _ (by omega) (by omega)]
      simp [hc]
    · rw [if_neg hc]
      show f_X3_coverWith_L2 n a (some b) (nI (k + 1)) (Jvm.Pilot.@@N@@.wT (Jvm.Pilot.@@N@@.wT w a u) a (upd u k (t' k))) = _
      rw [wT_wT, ih _ _ _ (by omega) (by omega)]
      simp [hc]
theorem X3_coverWith (h : LyAt w a md vi t) (h' : LyAt w b md' vi' t') (hba : b ≠ a + 1) (hab : b ≠ a) : f_X3_coverWith a (some b) w = x_ret () (wT w a (fun c => if c < 48 ∧ (t' c != -1) = true then t' c else t c)) := by
  have h1 := X3_coverWith_L h h' hba hab 48 0 xfuel t (by omega) (by unfold xfuel; omega)
  rw [show Jvm.Pilot.@@N@@.wT w a t = w from xset_self h.2, fo_R, fo_upd (fun c => t' c != -1) t' t 48] at h1
  exact h1
end X3w
