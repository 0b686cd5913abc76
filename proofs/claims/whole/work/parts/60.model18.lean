/-! ===== the model's changes: a layer moved ===== -/
section X7r
variable {w : xW} {c : Nat} {F : Nat → Int32} {ar : Nat → Nat → Int32} {g : WL}
/-- what is seen, kept -/
theorem X7_bef_L (h : MoAt w c F ar) (r : RelS g (ar 1)) (x1 x2 : Int32) : ∀ (d k n : Nat) (u : Nat → Int32), k + d = 48 → d < n →
    f_X7_moves_L20 n c x1 x2 (nI k) (wA w c 8 u) = f_X7_moves_L45 xfuel c x1 x2 0 (wA w c 8 ((List.range' k d).foldl (fun u i => if true = true then upd u i (seeG g i) else u) u)) := by
  intro d
  induction d with
  | zero =>
    intro k n u hk hn
    obtain ⟨n, rfl⟩ : ∃ m, n = m + 1 := ⟨n - 1, by omega⟩
    simp only [f_X7_moves_L20]
    rw [if_pos (show (48 : Int32) ≤ nI k from nI_le (a := 48) (by omega) (by omega))]
    rfl
  | succ d ih =>
    intro k n u hk hn
    obtain ⟨n, rfl⟩ : ∃ m, n = m + 1 := ⟨n - 1, by omega⟩
    have h1 := h.sA 8 (by omega) (by omega) u
    have e1 := X7_look h1 (g := g) r (show k < 48 by omega)
    have e2 : x_ist (wA w c 8 u) (c + 8) 0 (nI k) (seeG g k) = some (wA (wA w c 8 u) c 8 (upd u k (seeG g k))) := h1.st 8 (by omega) (by omega) (i := k) (by show k < 48; omega) (seeG g k)
    simp only [f_X7_moves_L20, h1.r10, ob, oe, h1.o, if_true, e1, x_br, e2]
    rw [if_neg (show ¬ (48 : Int32) ≤ nI k from nI_ge (b := 48) (by omega) (by omega)), ← nI_succ k, wA_wA, ih _ _ _ (by omega) (by omega)]
    rfl
/-- fifty places taken from elsewhere -/
def cpS (p : Nat) (v : Nat → Int32) (u : Nat → Int32) : Nat → Int32 := fun j => if p ≤ j ∧ j < p + 50 then v (j - p) else u j
/-- the layer that moves, kept -/
theorem X7_one_L (h : MoAt w c F ar) {a : Nat} (ha : a < 6) (x2 : Int32) : ∀ (d k n : Nat) (u : Nat → Int32), k + d = 50 → d < n →
    f_X7_moves_L45 n c (nI a) x2 (nI k) (wA w c 10 u) = (fun w0 => if x2 ≤ nI a then (f_X7_moves_L90 xfuel c x2 (-1) (nI a) w0) else (f_X7_moves_L90 xfuel c x2 1 (nI a) w0)) (wA w c 10 ((List.range' k d).foldl (fun u i => if true = true then upd u i (ar 1 (3 + 50 * a + i)) else u) u)) := by
  intro d
  induction d with
  | zero =>
    intro k n u hk hn
    obtain ⟨n, rfl⟩ : ∃ m, n = m + 1 := ⟨n - 1, by omega⟩
    simp only [f_X7_moves_L45]
    rw [if_pos (show (50 : Int32) ≤ nI k from nI_le (a := 50) (by omega) (by omega))]
    rfl
  | succ d ih =>
    intro k n u hk hn
    obtain ⟨n, rfl⟩ : ∃ m, n = m + 1 := ⟨n - 1, by omega⟩
    have h1 := h.sA 10 (by omega) (by omega) u
    have e1 : x_ild (wA w c 10 u) (c + 1) 0 (nI (3 + 50 * a + k)) = some (ar 1 (3 + 50 * a + k)) := h1.ld 1 (by omega) (by omega) (i := 3 + 50 * a + k) (by show _ < 303; omega)
    have e2 : x_ist (wA w c 10 u) (c + 10) 0 (nI k) (ar 1 (3 + 50 * a + k)) = some (wA (wA w c 10 u) c 10 (upd u k (ar 1 (3 + 50 * a + k)))) := h1.st 10 (by omega) (by omega) (i := k) (by show k < 50; omega) _
    simp only [f_X7_moves_L45, h1.r12, h1.r1, ob, oe, ix0, nI_add, e1, e2]
    rw [if_neg (show ¬ (50 : Int32) ≤ nI k from nI_ge (b := 50) (by omega) (by omega)), ← nI_succ k, wA_wA]
    refine (ih (k + 1) n _ (by omega) (by omega)).trans ?_
    rfl
/-- a layer's places over another's -/
theorem X7_lay_L (h : MoAt w c F ar) {a a' : Nat} (ha : a < 6) (ha' : a' < 6) (hne : a ≠ a') {sp : Int32} (hsp : nI a + sp = nI a') (x2 : Int32) (K : Nat → Int32 → Int32 → Int32 → xW → xO Int32) : ∀ (d k n : Nat) (u : Nat → Int32), k + d = 50 → d < n →
    ∃ u', f_X7_moves_L99 K n c x2 sp (nI a) (nI k) (wA w c 1 u) = K c x2 sp (nI a') (wA w c 1 u') ∧ ∀ j, u' j = if 3 + 50 * a + k ≤ j ∧ j < 3 + 50 * a + 50 then u (3 + 50 * a' + (j - (3 + 50 * a))) else u j := by
  intro d
  induction d with
  | zero =>
    intro k n u hk hn
    obtain ⟨n, rfl⟩ : ∃ m, n = m + 1 := ⟨n - 1, by omega⟩
    refine ⟨u, ?_, fun j => by rw [if_neg (by omega)]⟩
    simp only [f_X7_moves_L99]
    rw [if_pos (show (50 : Int32) ≤ nI k from nI_le (a := 50) (by omega) (by omega)), hsp]
  | succ d ih =>
    intro k n u hk hn
    obtain ⟨n, rfl⟩ : ∃ m, n = m + 1 := ⟨n - 1, by omega⟩
    have h1 := h.sA 1 (by omega) (by omega) u
    have e1 : x_ild (wA w c 1 u) (c + 1) 0 (nI (3 + 50 * a' + k)) = some (u (3 + 50 * a' + k)) := h1.ld 1 (by omega) (by omega) (i := 3 + 50 * a' + k) (by show _ < 303; omega)
    have e2 : x_ist (wA w c 1 u) (c + 1) 0 (nI (3 + 50 * a + k)) (u (3 + 50 * a' + k)) = some (wA (wA w c 1 u) c 1 (upd u (3 + 50 * a + k) (u (3 + 50 * a' + k)))) := h1.st 1 (by omega) (by omega) (i := 3 + 50 * a + k) (by show _ < 303; omega) _
    obtain ⟨u', e3, e4⟩ := ih (k + 1) n (upd u (3 + 50 * a + k) (u (3 + 50 * a' + k))) (by omega) (by omega)
    refine ⟨u', ?_, fun j => ?_⟩
    · simp only [f_X7_moves_L99, h1.r1, ob, oe, hsp, ix0, nI_add, e1, e2]
      rw [if_neg (show ¬ (50 : Int32) ≤ nI k from nI_ge (b := 50) (by omega) (by omega)), ← nI_succ k, wA_wA]
      exact e3
    · rw [e4 j]
      unfold upd
      by_cases hj : j = 3 + 50 * a + k
      · subst hj
        rw [if_neg (by omega), if_pos rfl, if_pos (by omega)]
        congr 1
        omega
      · by_cases hb : 3 + 50 * a + k ≤ j ∧ j < 3 + 50 * a + 50
        · rw [if_pos (by omega), if_neg (by omega), if_pos hb]
        · rw [if_neg (by omega), if_neg hj, if_neg hb]
/-- the array in which each layer stands where the map says -/
def BmS (S u : Nat → Int32) (f : Nat → Nat) : Prop := (∀ j, j < 3 → u j = S j) ∧ ∀ q k, q < 6 → k < 50 → u (3 + 50 * q + k) = S (3 + 50 * f q + k)
theorem BmS.lay {S u u' : Nat → Int32} {f : Nat → Nat} (h : BmS S u f) {a a' : Nat} (ha' : a' < 6) (e : ∀ j, u' j = if 3 + 50 * a + 0 ≤ j ∧ j < 3 + 50 * a + 50 then u (3 + 50 * a' + (j - (3 + 50 * a))) else u j) : BmS S u' (fun q => if q = a then f a' else f q) := by
  refine ⟨fun j hj => ?_, fun q k hq hk => ?_⟩
  · rw [e j, if_neg (by omega)]
    exact h.1 j hj
  · rw [e]
    show _ = S (3 + 50 * (if q = a then f a' else f q) + k)
    by_cases hqa : q = a
    · subst hqa
      rw [if_pos (by omega), if_pos rfl, show 3 + 50 * q + k - (3 + 50 * q) = k by omega]
      exact h.2 a' k ha' hk
    · rw [if_neg (by omega), if_neg hqa]
      exact h.2 q k hq hk
theorem BmS.congr {S u : Nat → Int32} {f f' : Nat → Nat} (h : BmS S u f) (e : ∀ q, q < 6 → f q = f' q) : BmS S u f' := ⟨h.1, fun q k hq hk => by rw [← e q hq]; exact h.2 q k hq hk⟩
theorem X7_mup_L (h : MoAt w c F ar) {S : Nat → Int32} {a b : Nat} (hb : b < 6) : ∀ (d k n : Nat) (u : Nat → Int32), k + d = b → a ≤ k → d < n → BmS S u (fun q => if a ≤ q ∧ q < k then q + 1 else q) →
    ∃ u', f_X7_moves_L90 n c (nI b) 1 (nI k) (wA w c 1 u) = f_X7_moves_L156 xfuel c (nI b) 0 (wA w c 1 u') ∧ BmS S u' (fun q => if a ≤ q ∧ q < b then q + 1 else q) := by
  intro d
  induction d with
  | zero =>
    intro k n u hk hak hn hB
    obtain ⟨n, rfl⟩ : ∃ m, n = m + 1 := ⟨n - 1, by omega⟩
    obtain rfl : k = b := by omega
    refine ⟨u, ?_, hB⟩
    simp only [f_X7_moves_L90]
    rw [if_pos trivial]
  | succ d ih =>
    intro k n u hk hak hn hB
    obtain ⟨n, rfl⟩ : ∃ m, n = m + 1 := ⟨n - 1, by omega⟩
    obtain ⟨u1, e1, e2⟩ := X7_lay_L h (a := k) (a' := k + 1) (by omega) (by omega) (by omega) (nI_succ k).symm (nI b) (fun a0 x2 x3 x4 w => f_X7_moves_L90 n a0 x2 x3 x4 w) 50 0 xfuel u (by omega) (by unfold xfuel; omega)
    obtain ⟨u2, e3, hB2⟩ := ih (k + 1) n u1 (by omega) (by omega) (by omega) ((hB.lay (a := k) (a' := k + 1) (by omega) e2).congr (fun q hq => by
      by_cases hqk : q = k
      · subst hqk
        rw [if_pos rfl, if_neg (by omega), if_pos (by omega)]
      · rw [if_neg hqk]
        by_cases h9 : a ≤ q ∧ q < k
        · rw [if_pos h9, if_pos (by omega)]
        · rw [if_neg h9, if_neg (by omega)]))
    refine ⟨u2, ?_, hB2⟩
    simp only [f_X7_moves_L90]
    rw [if_neg (fun hc : nI k = nI b => absurd ((nI_eq (by omega) (by omega)).mp hc) (by omega))]
    rw [nI_0] at e1
    rw [e1]
    exact e3
theorem X7_mdn_L (h : MoAt w c F ar) {S : Nat → Int32} {a b : Nat} (ha : a < 6) : ∀ (d k n : Nat) (u : Nat → Int32), b + d = k → k ≤ a → d < n → BmS S u (fun q => if k < q ∧ q ≤ a then q - 1 else q) →
    ∃ u', f_X7_moves_L90 n c (nI b) (-1) (nI k) (wA w c 1 u) = f_X7_moves_L156 xfuel c (nI b) 0 (wA w c 1 u') ∧ BmS S u' (fun q => if b < q ∧ q ≤ a then q - 1 else q) := by
  intro d
  induction d with
  | zero =>
    intro k n u hk hak hn hB
    obtain ⟨n, rfl⟩ : ∃ m, n = m + 1 := ⟨n - 1, by omega⟩
    obtain rfl : b = k := by omega
    refine ⟨u, ?_, hB⟩
    simp only [f_X7_moves_L90]
    rw [if_pos trivial]
  | succ d ih =>
    intro k n u hk hak hn hB
    obtain ⟨n, rfl⟩ : ∃ m, n = m + 1 := ⟨n - 1, by omega⟩
    obtain ⟨k, rfl⟩ : ∃ m, k = m + 1 := ⟨k - 1, by omega⟩
    obtain ⟨u1, e1, e2⟩ := X7_lay_L h (a := k + 1) (a' := k) (by omega) (by omega) (by omega) (nI_dn k) (nI b) (fun a0 x2 x3 x4 w => f_X7_moves_L90 n a0 x2 x3 x4 w) 50 0 xfuel u (by omega) (by unfold xfuel; omega)
    obtain ⟨u2, e3, hB2⟩ := ih k n u1 (by omega) (by omega) (by omega) ((hB.lay (a := k + 1) (a' := k) (by omega) e2).congr (fun q hq => by
      by_cases hqk : q = k + 1
      · subst hqk
        rw [if_pos rfl, if_neg (by omega), if_pos (by omega)]
        omega
      · rw [if_neg hqk]
        by_cases h9 : k + 1 < q ∧ q ≤ a
        · rw [if_pos h9, if_pos (by omega)]
        · rw [if_neg h9, if_neg (by omega)]))
    refine ⟨u2, ?_, hB2⟩
    simp only [f_X7_moves_L90]
    rw [if_neg (fun hc : nI (k + 1) = nI b => absurd ((nI_eq (by omega) (by omega)).mp hc) (by omega))]
    rw [nI_0] at e1
    rw [e1]
    exact e3
/-- the kept layer put back -/
theorem X7_put_L (h : MoAt w c F ar) {b : Nat} (hb : b < 6) : ∀ (d k n : Nat) (u : Nat → Int32), k + d = 50 → d < n →
    f_X7_moves_L156 n c (nI b) (nI k) (wA w c 1 u) = f_X7_moves_L196 xfuel c 0 0 (wA w c 1 ((List.range' k d).foldl (fun u i => upd u (3 + 50 * b + i) (ar 10 i)) u)) := by
  intro d
  induction d with
  | zero =>
    intro k n u hk hn
    obtain ⟨n, rfl⟩ : ∃ m, n = m + 1 := ⟨n - 1, by omega⟩
    simp only [f_X7_moves_L156]
    rw [if_pos (show (50 : Int32) ≤ nI k from nI_le (a := 50) (by omega) (by omega))]
    rfl
  | succ d ih =>
    intro k n u hk hn
    obtain ⟨n, rfl⟩ : ∃ m, n = m + 1 := ⟨n - 1, by omega⟩
    have h1 := h.sA 1 (by omega) (by omega) u
    have e1 : x_ild (wA w c 1 u) (c + 10) 0 (nI k) = some (ar 10 k) := h1.ld 10 (by omega) (by omega) (i := k) (by show k < 50; omega)
    have e2 : x_ist (wA w c 1 u) (c + 1) 0 (nI (3 + 50 * b + k)) (ar 10 k) = some (wA (wA w c 1 u) c 1 (upd u (3 + 50 * b + k) (ar 10 k))) := h1.st 1 (by omega) (by omega) (i := 3 + 50 * b + k) (by show _ < 303; omega) _
    simp only [f_X7_moves_L156, h1.r12, h1.r1, ob, oe, ix0, nI_add, e1, e2]
    rw [if_neg (show ¬ (50 : Int32) ≤ nI k from nI_ge (b := 50) (by omega) (by omega)), ← nI_succ k, wA_wA, ih _ _ _ (by omega) (by omega)]
    rfl
/-- the cells that changed, counted -/
theorem X7_chg_L (h : MoAt w c F ar) (r : RelS g (ar 1)) : ∀ (d k n acc : Nat), k + d = 48 → d < n →
    f_X7_moves_L196 n c (nI acc) (nI k) w = f_X7_done c (nI (acc + (List.range' k d).countP fun q => seeG g q != ar 8 q)) w := by
  intro d
  induction d with
  | zero =>
    intro k n acc hk hn
    obtain ⟨n, rfl⟩ : ∃ m, n = m + 1 := ⟨n - 1, by omega⟩
    obtain ⟨w4, e4, h4, f4⟩ := X7_done h (nI acc)
    simp only [f_X7_moves_L196, h.o, if_true]
    rw [if_pos (show (48 : Int32) ≤ nI k from nI_le (a := 48) (by omega) (by omega))]
    show x_bind (f_X7_done c (nI acc) w) _ = f_X7_done c (nI acc) w
    rw [e4, x_br]
  | succ d ih =>
    intro k n acc hk hn
    obtain ⟨n, rfl⟩ : ∃ m, n = m + 1 := ⟨n - 1, by omega⟩
    have e1 := X7_look h r (show k < 48 by omega)
    have e2 := h.ld 8 (by omega) (by omega) (i := k) (by show k < 48; omega)
    simp only [f_X7_moves_L196, h.o, if_true, e1, x_br, h.r10, ob, oe, e2, Int32.add_zero]
    rw [if_neg (show ¬ (48 : Int32) ≤ nI k from nI_ge (b := 48) (by omega) (by omega)), ← nI_succ k, List.range'_succ]
    by_cases hc : seeG g k = ar 8 k
    · rw [if_pos hc, ih _ _ _ (by omega) (by omega), List.countP_cons_of_neg (by simp [hc])]
    · rw [if_neg hc, ← nI_succ, ih _ _ _ (by omega) (by omega), List.countP_cons_of_pos (by simpa using hc)]
      congr 2
      omega
/-- a move, as a function of the block -/
def moveG (g : WL) (p q : Int32) : Int32 × WL := match posG g p, posG g q with
  | some a, some b => (nI (cnt 48 fun c => seeG g c != seeG (movG g a b) c), movG g a b)
  | _, _ => (-2, g)
theorem mov_rel {S u : Nat → Int32} (r : RelS g S) {a b : Nat} (ha : a < g.n) (hb : b < g.n) (hB : BmS S u (mvI a b)) : RelS (movG g a b) u := by
  obtain ⟨r1, r2, r3, r4, r5⟩ := r
  refine ⟨(hB.1 0 (by omega)).trans r1, (hB.1 1 (by omega)).trans r2, (hB.1 2 (by omega)).trans r3, r4, fun l hl => ?_⟩
  have hl' : l < g.n := hl
  obtain ⟨b1, b2, b3, b4⟩ := r5 (mvI a b l) (mvI_lt ha hb hl')
  refine ⟨(hB.2 l 0 (by omega) (by omega)).trans b1, (hB.2 l 1 (by omega) (by omega)).trans b2, b3, fun k hk => ?_⟩
  have e := hB.2 l (2 + k) (by omega) (by omega)
  unfold st
  rw [show 3 + 50 * l + 2 + k = 3 + 50 * l + (2 + k) by omega, e, show 3 + 50 * mvI a b l + (2 + k) = 3 + 50 * mvI a b l + 2 + k by omega]
  exact b4 k hk
end X7r
