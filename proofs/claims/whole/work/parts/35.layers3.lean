/-! ===== the stack of layers: what is written ===== -/
/-- the cells of the block at b -/
def blk (b : Nat) : Nat → Prop := fun q => b ≤ q ∧ q < b + 14
/-- with other numbers; with other tones, another mode in a slot; with another order -/
def WL.num (g : WL) (n : Nat) (ps es : Int32) : WL := WL.mk n ps es g.sg g.md g.vi g.to
def WL.put (g : WL) (j : Nat) (x y : Int32) (u : Nat → Int32) : WL := WL.mk g.n g.ps g.es g.sg (fun k => if k = j then x else g.md k) (fun k => if k = j then y else g.vi k) (fun k => if k = j then u else g.to k)
def WL.ord (g : WL) (sg : Nat → Nat) : WL := WL.mk g.n g.ps g.es sg g.md g.vi g.to
section X4c
variable {w : xW} {b : Nat} {g : WL}
theorem LsAt.p1 (h : LsAt w b g) {v : Int32} : x_put w b 4 1 (.int v) = some (xset w b (.inr (4, [.ref (b + 1), .int v, .int g.ps, .int g.es]))) := by
  obtain ⟨⟨f, h1, -⟩, -⟩ := h
  simp [x_put, h1]
theorem LsAt.p2 (h : LsAt w b g) {v : Int32} : x_put w b 4 2 (.int v) = some (xset w b (.inr (4, [.ref (b + 1), .int (nI g.n), .int v, .int g.es]))) := by
  obtain ⟨⟨f, h1, -⟩, -⟩ := h
  simp [x_put, h1]
theorem LsAt.p3 (h : LsAt w b g) {v : Int32} : x_put w b 4 3 (.int v) = some (xset w b (.inr (4, [.ref (b + 1), .int (nI g.n), .int g.ps, .int v]))) := by
  obtain ⟨⟨f, h1, -⟩, -⟩ := h
  simp [x_put, h1]
theorem LsAt.head (h : LsAt w b g) {n : Nat} (hn : n ≤ 6) (ps es : Int32) : LsAt (xset w b (.inr (4, [.ref (b + 1), .int (nI n), .int ps, .int es]))) b (g.num n ps es) := by
  obtain ⟨⟨f, h1, h2, h3⟩, h4, h5, h6, h7, h8, h9⟩ := h
  exact ⟨⟨f, xset_at _ _ _, (xset_ne (by omega)).trans h2, h3⟩, fun j hj => ⟨(xset_ne (by omega)).trans (h4 j hj).1, (xset_ne (by omega)).trans (h4 j hj).2⟩, hn, h6, h7, h8, h9⟩
/-- a slot is written: its object and its tones -/
theorem LsAt.slot (h : LsAt w b g) {j : Nat} (hj : j < 6) {x y : Int32} (hx : x_nar 1 x = x) (hy : x_nar 2 y = y) {u : Nat → Int32} (hu : ∀ c, c < 48 → okT (u c)) {w' : xW} (hl : LyAt w' (b + 2 + 2 * j) x y u) (hf : Fr (fun q => q = b + 2 + 2 * j ∨ q = b + 2 + 2 * j + 1) w w') : LsAt w' b (g.put j x y u) := by
  obtain ⟨⟨f, h1, h2, h3⟩, h4, h5, h6, h7, h8, h9⟩ := h
  refine ⟨⟨f, (hf.2 _ (by omega)).trans h1, (hf.2 _ (by omega)).trans h2, h3⟩, fun k hk => ?_, h5, h6, h7, fun k hk => ?_, fun k c hk hc => ?_⟩
  · by_cases hkj : k = j
    · subst hkj
      show LyAt w' _ (if k = k then x else _) (if k = k then y else _) (if k = k then u else _)
      rw [if_pos rfl, if_pos rfl, if_pos rfl]
      exact hl
    · show LyAt w' _ (if k = j then x else _) (if k = j then y else _) (if k = j then u else _)
      rw [if_neg hkj, if_neg hkj, if_neg hkj]
      exact (h4 k hk).fr hf (by omega) (by omega)
  · show x_nar 1 (if k = j then x else _) = _ ∧ x_nar 2 (if k = j then y else _) = _
    by_cases hkj : k = j
    · simp only [hkj, if_true]
      exact ⟨by simpa [WL.put, WL.md, WL.mk] using hx, by simpa [WL.put, WL.vi, WL.mk] using hy⟩
    · simp only [hkj, if_false]
      exact ⟨by simpa [WL.put, WL.md, WL.mk, hkj] using (h8 k hk).1, by simpa [WL.put, WL.vi, WL.mk, hkj] using (h8 k hk).2⟩
  · show okT ((if k = j then u else g.to k) c)
    by_cases hkj : k = j
    · rw [if_pos hkj]; exact hu c hc
    · rw [if_neg hkj]; exact h9 k c hk hc
theorem Fr.wT (w : xW) (a : Nat) (u : Nat → Int32) : Fr (fun q => q = a ∨ q = a + 1) w (wT w a u) := Fr.set (Or.inr rfl)
theorem slot_blk {j : Nat} (hj : j < 6) : ∀ q, (q = b + 2 + 2 * j ∨ q = b + 2 + 2 * j + 1) → blk b q := fun q hq => by
  unfold blk
  omega
theorem okT_neg : okT (-1) := Or.inl rfl
/-- a layer begun on top -/
theorem X4_beginLayer (h : LsAt w b g) {x : Int32} (hx : x_nar 1 x = x) (hn : g.n < 6) :
    ∃ w', f_X4_beginLayer b x w = x_ret (some (b + 2 + 2 * g.sg g.n)) w' ∧ LsAt w' b ((g.num (g.n + 1) g.ps g.es).put (g.sg g.n) x 1 (fun c => if c < 48 then -1 else g.t g.n c)) ∧ Fr (blk b) w w' := by
  have h1 := h.head (n := g.n + 1) (by omega) g.ps g.es
  have e1 := h.p1 (v := nI (g.n + 1))
  have hl := h1.ly (i := g.n) (by omega)
  have hs := h.2.2.2.1 g.n hn
  refine ⟨_, ?_, h1.slot hs hx (by decide) (fun c hc => by rw [if_pos hc]; exact okT_neg) ((hl.s0 x 1).wT _) ((Fr.set (Or.inl rfl)).tr (Fr.wT _ _ _)), (Fr.set (show blk b b from ⟨Nat.le_refl _, by omega⟩)).tr (Fr.mono ((Fr.set (Or.inl rfl)).tr (Fr.wT _ _ _)) (slot_blk hs))⟩
  simp only [f_X4_beginLayer, h.g1, ob]
  rw [if_pos (show nI g.n < 6 from nI_lt (b := 6) hn (by omega)), ← nI_succ, e1]
  simp only [ob, h1.g1, h1.o, if_true]
  rw [show nI (g.num (g.n + 1) g.ps g.es).n - 1 = nI g.n from nI_pred g.n, X4_at h1 (show g.n < g.n + 1 by omega)]
  simp only [x_br, oe, hl.o, if_true]
  rw [X3_begin hl hx]
  rfl
end X4c
