/-! ===== the stack of layers: moving, taking away, merging ===== -/
/-- where the layer at a position stood before the one at a went to c -/
def mvI (a c k : Nat) : Nat := if k = c then a else if a ≤ k ∧ k < c then k + 1 else if c < k ∧ k ≤ a then k - 1 else k
theorem mvI_lt {a c k n : Nat} (ha : a < n) (hc : c < n) (hk : k < n) : mvI a c k < n := by
  unfold mvI
  split
  · exact ha
  · split
    · omega
    · split <;> omega
theorem mvI_inj {a c i j : Nat} (h : mvI a c i = mvI a c j) : i = j := by
  unfold mvI at h
  repeat' split at h
  all_goals omega
abbrev wS (w : xW) (b : Nat) (f : Nat → Option Nat) : xW := xset w (b + 1) (.inl (3, 6, .inr (.inr (.inr (.inr f)))))
section X4f
variable {w : xW} {b : Nat} {g : WL}
theorem wS_wS (f f' : Nat → Option Nat) : wS (wS w b f) b f' = wS w b f' := xset_set _ _ _ _
theorem wS_g0 (h : LsAt w b g) (f : Nat → Option Nat) : x_getr (wS w b f) b 4 0 = some (some (b + 1)) := by
  obtain ⟨⟨f0, h1, -⟩, -⟩ := h
  have : (wS w b f).2 b = w.2 b := xset_ne (by omega)
  simp [x_getr, x_get, this, h1, x_vr]
theorem wS_ld (f : Nat → Option Nat) {i : Nat} (hi : i < 6) : x_ald (wS w b f) (b + 1) 3 (nI i) = some (f i) := by
  have : (wS w b f).2 (b + 1) = _ := xset_at _ _ _
  simp only [x_ald, this]
  rw [if_pos ⟨trivial, nI_in (N := 6) hi (by decide)⟩, nI_clamp (by omega)]
theorem wS_o (h : LsAt w b g) (f : Nat → Option Nat) {j : Nat} (hj : j < 6) : x_isO (wS w b f) (b + 2 + 2 * j) 3 = true := by
  have h1 := (h.2.1 j hj).1
  have : (wS w b f).2 (b + 2 + 2 * j) = w.2 (b + 2 + 2 * j) := xset_ne (by omega)
  simp [x_isO, this, h1]
theorem wS_st (h : LsAt w b g) (f : Nat → Option Nat) {i j : Nat} (hi : i < 6) (hj : j < 6) : x_ast (wS w b f) (b + 1) 3 (nI i) (b + 2 + 2 * j) = some (wS w b (va_up f i (some (b + 2 + 2 * j)))) := by
  have : (wS w b f).2 (b + 1) = _ := xset_at _ _ _
  have ho := wS_o h f hj
  simp only [x_ast, this]
  rw [if_pos ⟨trivial, nI_in (N := 6) hi (by decide), ho⟩, nI_clamp (by omega)]
  show some (wS (wS w b f) b _) = _
  rw [wS_wS]
theorem vaup_at (f : Nat → Option Nat) (i : Nat) (v : Option Nat) (k : Nat) : va_up f i v k = if k = i then v else f k := by
  unfold va_up
  by_cases h : k = i <;> simp [h]
/-- the end of a move -/
theorem X4_shift_up (h : LsAt w b g) {a c : Nat} (ha : a < 6) (hc : c < 6) (hac : a ≤ c) (m : Nat) : ∀ (d k n : Nat) (f : Nat → Option Nat), k + d = c → a ≤ k → d < n → m < 6 → (∀ q, q < 6 → f q = some (b + 2 + 2 * g.sg (if a ≤ q ∧ q < k then q + 1 else q))) →
    ∃ f' : Nat → Option Nat, f_X4_shift_L22 n b (nI a) (nI c) (some (b + 2 + 2 * m)) (nI k) (wS w b f) = x_ret () (wS w b f') ∧ ∀ q, q < 6 → f' q = some (b + 2 + 2 * (if q = c then m else g.sg (if a ≤ q ∧ q < c then q + 1 else q))) := by
  intro d
  induction d with
  | zero =>
    intro k n f hk hak hn hm hf
    obtain ⟨n, rfl⟩ : ∃ m, n = m + 1 := ⟨n - 1, by omega⟩
    obtain rfl : k = c := by omega
    refine ⟨va_up f k (some (b + 2 + 2 * m)), ?_, fun q hq => ?_⟩
    · simp only [f_X4_shift_L22]
      obtain ⟨N, hN⟩ : ∃ N, xfuel = N + 1 := ⟨4999, rfl⟩
      rw [if_pos (nI_le (Nat.le_refl _) (by omega)), hN]
      simp only [f_X4_shift_L53, wS_g0 h, ob, oe]
      rw [if_pos (nI_le hac (by omega)), wS_st h f hc hm]
      rfl
    · rw [vaup_at]
      by_cases hqk : q = k
      · simp [hqk]
      · rw [if_neg hqk, if_neg hqk, hf q hq]
  | succ d ih =>
    intro k n f hk hak hn hm hf
    obtain ⟨n, rfl⟩ : ∃ m, n = m + 1 := ⟨n - 1, by omega⟩
    have hs := h.2.2.2.1 (k + 1) (by omega)
    have e1 : f (k + 1) = some (b + 2 + 2 * g.sg (k + 1)) := by rw [hf _ (by omega), if_neg (by omega)]
    simp only [f_X4_shift_L22]
    rw [if_neg (nI_ge (by omega) (by omega)), ← nI_succ k]
    simp only [wS_g0 h, ob, oe, wS_ld f (show k + 1 < 6 by omega), e1]
    rw [wS_st h f (by omega) hs, ob]
    refine ih (k + 1) n _ (by omega) (by omega) (by omega) hm (fun q hq => ?_)
    rw [vaup_at]
    by_cases hqk : q = k
    · subst hqk
      rw [if_pos rfl, if_pos (by omega)]
    · rw [if_neg hqk, hf q hq]
      by_cases h9 : a ≤ q ∧ q < k
      · rw [if_pos h9, if_pos (by omega)]
      · rw [if_neg h9, if_neg (by omega)]
theorem X4_shift_dn (h : LsAt w b g) {a c : Nat} (ha : a < 6) (hc : c < 6) (m : Nat) : ∀ (d k n : Nat) (f : Nat → Option Nat), c + d = k → k ≤ a → d < n → m < 6 → (∀ q, q < 6 → f q = some (b + 2 + 2 * g.sg (if k < q ∧ q ≤ a then q - 1 else q))) →
    ∃ f' : Nat → Option Nat, f_X4_shift_L53 n b (nI c) (some (b + 2 + 2 * m)) (nI k) (wS w b f) = x_ret () (wS w b f') ∧ ∀ q, q < 6 → f' q = some (b + 2 + 2 * (if q = c then m else g.sg (if c < q ∧ q ≤ a then q - 1 else q))) := by
  intro d
  induction d with
  | zero =>
    intro k n f hk hak hn hm hf
    obtain ⟨n, rfl⟩ : ∃ m, n = m + 1 := ⟨n - 1, by omega⟩
    obtain rfl : c = k := by omega
    refine ⟨va_up f c (some (b + 2 + 2 * m)), ?_, fun q hq => ?_⟩
    · simp only [f_X4_shift_L53, wS_g0 h, ob, oe]
      rw [if_pos (nI_le (Nat.le_refl _) (by omega)), wS_st h f hc hm]
      rfl
    · rw [vaup_at]
      by_cases hqk : q = c
      · simp [hqk]
      · rw [if_neg hqk, if_neg hqk, hf q hq]
  | succ d ih =>
    intro k n f hk hak hn hm hf
    obtain ⟨n, rfl⟩ : ∃ m, n = m + 1 := ⟨n - 1, by omega⟩
    obtain ⟨j, rfl⟩ : ∃ j, k = j + 1 := ⟨k - 1, by omega⟩
    have hs := h.2.2.2.1 j (by omega)
    have e1 : f j = some (b + 2 + 2 * g.sg j) := by rw [hf _ (by omega), if_neg (by omega)]
    simp only [f_X4_shift_L53]
    rw [if_neg (nI_ge (by omega) (by omega)), nI_pred, nI_dn]
    simp only [wS_g0 h, ob, oe, wS_ld f (show j < 6 by omega), e1]
    rw [wS_st h f (by omega) hs, ob]
    refine ih j n _ (by omega) (by omega) (by omega) hm (fun q hq => ?_)
    rw [vaup_at]
    by_cases hqk : q = j + 1
    · subst hqk
      rw [if_pos rfl, if_pos (by omega)]
      rfl
    · rw [if_neg hqk, hf q hq]
      by_cases h9 : j + 1 < q ∧ q ≤ a
      · rw [if_pos h9, if_pos (by omega)]
      · rw [if_neg h9, if_neg (by omega)]
theorem LsAt.wS (h : LsAt w b g) (f : Nat → Option Nat) (sg : Nat → Nat) (hf : ∀ q, q < 6 → f q = some (b + 2 + 2 * sg q)) (h6 : ∀ q, q < 6 → sg q < 6) (hi : ∀ i j, i < 6 → j < 6 → sg i = sg j → i = j) : LsAt (wS w b f) b (g.ord sg) := by
  obtain ⟨⟨f0, h1, h2, h3⟩, h4, h5, -, -, h8, h9⟩ := h
  exact ⟨⟨f, (xset_ne (by omega)).trans h1, xset_at _ _ _, hf⟩, fun j hj => ⟨(xset_ne (by omega)).trans (h4 j hj).1, (xset_ne (by omega)).trans (h4 j hj).2⟩, h5, h6, hi, h8, h9⟩
/-- the order behind a move -/
def movG (g : WL) (a c : Nat) : WL := g.ord (fun q => g.sg (mvI a c q))
theorem X4_shift (h : LsAt w b g) {a c : Nat} (ha : a < g.n) (hc : c < g.n) : ∃ w', f_X4_shift b (nI a) (nI c) w = x_ret () w' ∧ LsAt w' b (movG g a c) ∧ Fr (blk b) w w' := by
  have h6 := h.n6
  have hm := h.2.2.2.1 a (by omega)
  obtain ⟨⟨f0, q1, q2, q3⟩, -⟩ := id h
  have hw : w = wS w b f0 := (xset_self q2).symm
  have key : ∃ f' : Nat → Option Nat, f_X4_shift_L22 xfuel b (nI a) (nI c) (some (b + 2 + 2 * g.sg a)) (nI a) (wS w b f0) = x_ret () (wS w b f') ∧ ∀ q, q < 6 → f' q = some (b + 2 + 2 * g.sg (mvI a c q)) := by
    by_cases hac : a ≤ c
    · obtain ⟨f', e1, e2⟩ := X4_shift_up h (show a < 6 by omega) (show c < 6 by omega) hac (g.sg a) (c - a) a xfuel f0 (by omega) (Nat.le_refl _) (by unfold xfuel; omega) hm (fun q hq => by rw [q3 q hq, if_neg (by omega)])
      refine ⟨f', e1, fun q hq => ?_⟩
      rw [e2 q hq]
      unfold mvI
      by_cases h1 : q = c
      · rw [if_pos h1, if_pos h1]
      · rw [if_neg h1, if_neg h1]
        by_cases h2 : a ≤ q ∧ q < c
        · rw [if_pos h2, if_pos h2]
        · rw [if_neg h2, if_neg h2, if_neg (by omega)]
    · obtain ⟨f', e1, e2⟩ := X4_shift_dn h (show a < 6 by omega) (show c < 6 by omega) (g.sg a) (a - c) a xfuel f0 (by omega) (Nat.le_refl _) (by unfold xfuel; omega) hm (fun q hq => by rw [q3 q hq, if_neg (by omega)])
      refine ⟨f', ?_, fun q hq => ?_⟩
      · rw [show f_X4_shift_L22 xfuel b (nI a) (nI c) (some (b + 2 + 2 * g.sg a)) (nI a) (Jvm.Pilot.@@N@@.wS w b f0) = f_X4_shift_L53 xfuel b (nI c) (some (b + 2 + 2 * g.sg a)) (nI a) (Jvm.Pilot.@@N@@.wS w b f0) by
          obtain ⟨N, hN⟩ : ∃ N, xfuel = N + 1 := ⟨4999, rfl⟩
          rw [hN]
          simp only [f_X4_shift_L22]
          rw [if_pos (nI_le (by omega) (by omega)), hN]]
        exact e1
      · rw [e2 q hq]
        unfold mvI
        by_cases h1 : q = c
        · rw [if_pos h1, if_pos h1]
        · rw [if_neg h1, if_neg h1, if_neg (show ¬ (a ≤ q ∧ q < c) by omega)]
  obtain ⟨f', e1, e2⟩ := key
  refine ⟨_, ?_, h.wS f' _ e2 (fun q hq => h.2.2.2.1 _ (mvI_lt (by omega) (by omega) hq)) (fun i j hi hj he => mvI_inj (h.2.2.2.2.1 _ _ (mvI_lt (by omega) (by omega) hi) (mvI_lt (by omega) (by omega) hj) he)), Fr.set (show blk b (b + 1) from ⟨by omega, by omega⟩)⟩
  simp only [f_X4_shift, h.o, if_true, X4_at h ha, X4_at h hc, x_br, oe]
  rw [← hw] at e1
  exact e1
def tkG (g : WL) (i : Nat) : WL := (movG g i (g.n - 1)).num (g.n - 1) g.ps g.es
def dropG (g : WL) (p : Int32) : Int32 × WL := match posG g p with
  | none => (-2, g)
  | some i => (nI (g.n - 1), tkG g i)
theorem X4_takeAway (h : LsAt w b g) (p : Int32) : Run b w (f_X4_takeAway b p w) (dropG g p) := by
  have h6 := h.n6
  rcases posG_or g h6 p with ⟨i, hi, rfl, hp⟩ | ⟨hq, hp⟩
  · obtain ⟨w1, e1, h1, hf1⟩ := X4_shift h hi (show g.n - 1 < g.n by omega)
    have h2 := h1.head (n := g.n - 1) (by omega) g.ps g.es
    have e2 := h1.p1 (v := nI (g.n - 1))
    have en : nI g.n - 1 = nI (g.n - 1) := by
      rw [show g.n = (g.n - 1) + 1 by omega, nI_pred]
      rfl
    rw [show dropG g (nI i) = (nI (g.n - 1), tkG g i) by simp [dropG, hp]]
    refine ⟨_, ?_, h2, hf1.tr (Fr.set (show blk b b from ⟨Nat.le_refl _, by omega⟩))⟩
    simp only [f_X4_takeAway, h.o, if_true, X4_at h hi, x_br, oe, h.g1, ob, en, e1]
    have e3 : x_geti w1 b 4 1 = some (nI g.n) := h1.g1
    rw [e3, ob, en, e2, ob]
    have e4 := h2.g1
    show (x_geti (xset w1 b (.inr (4, [.ref (b + 1), .int (nI (g.n - 1)), .int g.ps, .int g.es]))) b 4 1).bind _ = _
    rw [e4]
    rfl
  · simp only [f_X4_takeAway, h.o, if_true, X4_at_no h hq, x_br, oen]
    rw [show dropG g p = (-2, g) by simp [dropG, hp]]
    exact Run.stay h _
end X4f
