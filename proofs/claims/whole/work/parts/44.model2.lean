/-! ===== the model's reading, in the wall's terms ===== -/
/-- the model's array stands for the wall -/
def RelS (g : WL) (S : Nat → Int32) : Prop := S 0 = nI g.n ∧ S 1 = g.ps ∧ S 2 = g.es ∧ g.n ≤ 6 ∧ ∀ l, l < g.n → sm S l = g.m l ∧ sv S l = g.v l ∧ (g.v l = 0 ∨ g.v l = 1) ∧ ∀ k, k < 48 → st S l k = g.t l k + 1 ∧ okT (g.t l k)
theorem okT_le {x : Int32} (h : okT x) : (x + 1 ≤ 0) = (x = -1) := by
  rcases h with rfl | ⟨k, hk, rfl⟩
  · decide
  · apply propext
    constructor
    · intro h1
      rw [← nI_succ] at h1
      exact absurd h1 (nI_nle (by omega) (by omega))
    · intro h1
      have := nI_toInt (n := k) (by omega)
      rw [h1] at this
      have h2 : (-1 : Int32).toInt = -1 := by decide
      omega
section X7m
variable {w : xW} {c : Nat} {F : Nat → Int32} {ar : Nat → Nat → Int32} {g : WL}
theorem X7_blended (md b t : Int32) (w : xW) : f_X7_blended md b t w = x_ret (blendG md b t) w := by
  unfold f_X7_blended blendG
  have e1 : (if t ≤ b then (x_ret t w : xO Int32) else x_ret b w) = x_ret (if t < b then t else b) w := by
    by_cases h1 : t < b
    · rw [if_pos h1, if_pos (Int32.le_of_lt h1)]
    · rw [if_neg h1]
      by_cases h2 : t ≤ b
      · rw [if_pos h2, Int32.le_antisymm h2 (Int32.not_lt.mp h1)]
      · rw [if_neg h2]
  have e2 : (if b ≤ t then (x_ret t w : xO Int32) else x_ret b w) = x_ret (if b < t then t else b) w := by
    by_cases h1 : b < t
    · rw [if_pos h1, if_pos (Int32.le_of_lt h1)]
    · rw [if_neg h1]
      by_cases h2 : b ≤ t
      · rw [if_pos h2, Int32.le_antisymm h2 (Int32.not_lt.mp h1)]
      · rw [if_neg h2]
  simp only [e1, e2]
  by_cases h1 : md = 97
  · rw [if_pos h1, if_pos h1]
  · rw [if_neg h1, if_neg h1]
    by_cases h2 : md = 100
    · rw [if_pos h2, if_pos h2]
    · rw [if_neg h2, if_neg h2]
      by_cases h3 : md = 108
      · rw [if_pos h3, if_pos h3]
      · rw [if_neg h3, if_neg h3]
        by_cases h4 : md = 109
        · rw [if_pos h4, if_pos h4]
        · rw [if_neg h4, if_neg h4]
          by_cases h5 : md = 115
          · rw [if_pos h5, if_pos h5]
          · rw [if_neg h5, if_neg h5]
theorem X7_full_L (h : MoAt w c F ar) (r : RelS g (ar 1)) {l : Nat} (hl : l < g.n) : ∀ (d k n acc : Nat), k + d = 48 → d < n → f_X7_full_L4 n c (nI l) (nI acc) (nI k) w = x_ret (nI (acc + (List.range' k d).countP fun q => g.t l q != -1)) w := by
  have h6 := r.2.2.2.1
  intro d
  induction d with
  | zero =>
    intro k n acc hk hn
    obtain ⟨n, rfl⟩ : ∃ m, n = m + 1 := ⟨n - 1, by omega⟩
    simp only [f_X7_full_L4]
    rw [if_pos (show (48 : Int32) ≤ nI k from nI_le (a := 48) (by omega) (by omega))]
    rfl
  | succ d ih =>
    intro k n acc hk hn
    obtain ⟨n, rfl⟩ : ∃ m, n = m + 1 := ⟨n - 1, by omega⟩
    obtain ⟨e1, e2⟩ := (r.2.2.2.2 l hl).2.2.2 k (by omega)
    simp only [f_X7_full_L4, h.o, if_true, X7_at h (show l < 6 by omega) (show k < 48 by omega), x_br, e1, okT_le e2, Int32.add_zero]
    rw [if_neg (show ¬ (48 : Int32) ≤ nI k from nI_ge (b := 48) (by omega) (by omega)), ← nI_succ k, List.range'_succ]
    by_cases hc : g.t l k = -1
    · rw [if_pos hc, ih _ _ _ (by omega) (by omega), List.countP_cons_of_neg (by simp [hc])]
    · rw [if_neg hc, ← nI_succ, ih _ _ _ (by omega) (by omega), List.countP_cons_of_pos (by simp [hc])]
      congr 2
      omega
theorem X7_full (h : MoAt w c F ar) (r : RelS g (ar 1)) {l : Nat} (hl : l < g.n) : f_X7_full c (nI l) w = x_ret (nI (tonG g l)) w := by
  have h1 := X7_full_L h r hl 48 0 xfuel 0 (by omega) (by unfold xfuel; omega)
  rw [Nat.zero_add, cntR] at h1
  exact h1
theorem shown_if (r : RelS g (ar 1)) {l : Nat} (hl : l < g.n) : (if sv (ar 1) l = 1 then (1 : Int32) else 0) = if g.v l = 0 then 0 else 1 := by
  obtain ⟨-, e, hv, -⟩ := r.2.2.2.2 l hl
  rw [e]
  rcases hv with hv | hv
  · rw [hv]; decide
  · rw [hv]; decide
theorem X7_showing_L (h : MoAt w c F ar) (r : RelS g (ar 1)) : ∀ (d k n acc : Nat), k + d = g.n → d < n → f_X7_showing_L4 n c (nI acc) (nI k) w = x_ret (nI (acc + (List.range' k d).countP fun i => g.v i != 0)) w := by
  have h6 := r.2.2.2.1
  intro d
  induction d with
  | zero =>
    intro k n acc hk hn
    obtain ⟨n, rfl⟩ : ∃ m, n = m + 1 := ⟨n - 1, by omega⟩
    simp only [f_X7_showing_L4, h.r1, ob, oe, X7_n h, r.1]
    rw [if_pos (nI_le (by omega) (by omega))]
    rfl
  | succ d ih =>
    intro k n acc hk hn
    obtain ⟨n, rfl⟩ : ∃ m, n = m + 1 := ⟨n - 1, by omega⟩
    simp only [f_X7_showing_L4, h.r1, ob, oe, X7_n h, r.1, h.o, if_true, X7_shown h (show k < 6 by omega), x_br, shown_if r (show k < g.n by omega), Int32.add_zero]
    rw [if_neg (nI_ge (by omega) (by omega)), ← nI_succ k, List.range'_succ]
    by_cases hc : g.v k = 0
    · rw [if_pos hc, if_pos rfl, ih _ _ _ (by omega) (by omega), List.countP_cons_of_neg (by simp [hc])]
    · rw [if_neg hc, if_neg (by decide), ← nI_succ, ih _ _ _ (by omega) (by omega), List.countP_cons_of_pos (by simp [hc])]
      congr 2
      omega
theorem X7_showing (h : MoAt w c F ar) (r : RelS g (ar 1)) : f_X7_showing c w = x_ret (nI (cnt g.n fun i => g.v i != 0)) w := by
  have h1 := X7_showing_L h r g.n 0 xfuel 0 (by omega) (by have := r.2.2.2.1; unfold xfuel; omega)
  rw [Nat.zero_add, cntR] at h1
  exact h1
theorem X7_look_L (h : MoAt w c F ar) (r : RelS g (ar 1)) {q : Nat} (hq : q < 48) : ∀ (d k n : Nat) (x : Int32), k + d = g.n → d < n → f_X7_look_L5 n c (nI q) x (nI k) w = x_ret ((List.range' k d).foldl (overF g q) x) w := by
  have h6 := r.2.2.2.1
  intro d
  induction d with
  | zero =>
    intro k n x hk hn
    obtain ⟨n, rfl⟩ : ∃ m, n = m + 1 := ⟨n - 1, by omega⟩
    simp only [f_X7_look_L5, h.r1, ob, oe, X7_n h, r.1]
    rw [if_pos (nI_le (by omega) (by omega))]
    rfl
  | succ d ih =>
    intro k n x hk hn
    obtain ⟨n, rfl⟩ : ∃ m, n = m + 1 := ⟨n - 1, by omega⟩
    obtain ⟨em, ev, hv, et⟩ := r.2.2.2.2 k (by omega)
    obtain ⟨e1, e2⟩ := et q hq
    simp only [f_X7_look_L5, h.r1, ob, oe, X7_n h, r.1, h.o, if_true, X7_shown h (show k < 6 by omega), X7_at h (show k < 6 by omega) hq, X7_mode0 h (show k < 6 by omega), x_br, shown_if r (show k < g.n by omega), e1, okT_le e2, em, X7_blended, Int32.add_sub_cancel]
    rw [if_neg (nI_ge (by omega) (by omega)), ← nI_succ k, List.range'_succ, List.foldl_cons]
    by_cases c1 : g.v k = 0
    · rw [if_pos c1, if_pos rfl, ih _ _ _ (by omega) (by omega), show overF g q x k = x by simp [overF, c1]]
    · rw [if_neg c1, if_neg (by decide)]
      by_cases c2 : g.t k q = -1
      · rw [if_pos c2, ih _ _ _ (by omega) (by omega), show overF g q x k = x by simp [overF, c2]]
      · rw [if_neg c2, ih _ _ _ (by omega) (by omega), show overF g q x k = blendG (g.m k) x (g.t k q) by simp [overF, c1, c2]]
theorem X7_look (h : MoAt w c F ar) (r : RelS g (ar 1)) {q : Nat} (hq : q < 48) : f_X7_look c (nI q) w = x_ret (seeG g q) w := by
  have h1 := X7_look_L h r hq g.n 0 xfuel 15 (by omega) (by have := r.2.2.2.1; unfold xfuel; omega)
  rw [fo_R] at h1
  exact h1
theorem X7_top_L (h : MoAt w c F ar) (r : RelS g (ar 1)) {q : Nat} (hq : q < 48) : ∀ (k n : Nat), k ≤ g.n → k < n → f_X7_top_L9 n c (nI q) (nI k + (-1)) w = x_ret ((topG (covG g q) k).elim (-1) nI) w := by
  have h6 := r.2.2.2.1
  intro k
  induction k with
  | zero =>
    intro n hk hn
    obtain ⟨n, rfl⟩ : ∃ m, n = m + 1 := ⟨n - 1, by omega⟩
    rw [nI_dn0]
    simp only [f_X7_top_L9]
    rw [if_pos (by decide)]
    rfl
  | succ k ih =>
    intro n hk hn
    obtain ⟨n, rfl⟩ : ∃ m, n = m + 1 := ⟨n - 1, by omega⟩
    rw [nI_dn]
    obtain ⟨em, ev, hv, et⟩ := r.2.2.2.2 k (by omega)
    obtain ⟨e1, e2⟩ := et q hq
    simp only [f_X7_top_L9, h.o, if_true, X7_shown h (show k < 6 by omega), X7_at h (show k < 6 by omega) hq, x_br, shown_if r (show k < g.n by omega), e1, okT_le e2]
    rw [if_neg (nI_pos (by omega))]
    by_cases c1 : g.v k = 0
    · rw [if_pos c1, if_pos rfl, ih _ (by omega) (by omega)]
      simp [topG, covG, c1]
    · rw [if_neg c1, if_neg (by decide)]
      by_cases c2 : g.t k q = -1
      · rw [if_pos c2, ih _ (by omega) (by omega)]
        simp [topG, covG, c2]
      · rw [if_neg c2]
        simp [topG, covG, c1, c2]
theorem X7_top (h : MoAt w c F ar) (r : RelS g (ar 1)) {q : Nat} (hq : q < 48) : f_X7_top c (nI q) w = x_ret ((topG (covG g q) g.n).elim (-1) nI) w := by
  simp only [f_X7_top, h.r1, ob, oe, X7_n h, r.1]
  rw [Int32.sub_eq_add_neg]
  exact X7_top_L h r hq g.n xfuel (Nat.le_refl _) (by have := r.2.2.2.1; unfold xfuel; omega)
theorem X7_cellsOf_L (h : MoAt w c F ar) (r : RelS g (ar 1)) (x : Int32) : ∀ (d k n acc : Nat), k + d = 48 → d < n → f_X7_cellsOf_L4 n c x (nI acc) (nI k) w = x_ret (nI (acc + (List.range' k d).countP fun q => seeG g q == x)) w := by
  intro d
  induction d with
  | zero =>
    intro k n acc hk hn
    obtain ⟨n, rfl⟩ : ∃ m, n = m + 1 := ⟨n - 1, by omega⟩
    simp only [f_X7_cellsOf_L4]
    rw [if_pos (show (48 : Int32) ≤ nI k from nI_le (a := 48) (by omega) (by omega))]
    rfl
  | succ d ih =>
    intro k n acc hk hn
    obtain ⟨n, rfl⟩ : ∃ m, n = m + 1 := ⟨n - 1, by omega⟩
    simp only [f_X7_cellsOf_L4, h.o, if_true, X7_look h r (show k < 48 by omega), x_br, Int32.add_zero]
    rw [if_neg (show ¬ (48 : Int32) ≤ nI k from nI_ge (b := 48) (by omega) (by omega)), ← nI_succ k, List.range'_succ]
    by_cases hc : seeG g k = x
    · rw [if_pos hc, ← nI_succ, ih _ _ _ (by omega) (by omega), List.countP_cons_of_pos (by simp [hc])]
      congr 2
      omega
    · rw [if_neg hc, ih _ _ _ (by omega) (by omega), List.countP_cons_of_neg (by simp [hc])]
theorem X7_cellsOf (h : MoAt w c F ar) (r : RelS g (ar 1)) (x : Int32) : f_X7_cellsOf c x w = x_ret (nI (cnt 48 fun q => seeG g q == x)) w := by
  have h1 := X7_cellsOf_L h r x 48 0 xfuel 0 (by omega) (by unfold xfuel; omega)
  rw [Nat.zero_add, cntR] at h1
  exact h1
end X7m
