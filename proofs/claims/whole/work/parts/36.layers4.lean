/-! ===== the stack of layers: its changes, each as a function of the block ===== -/
/-- the call answers r, the block is g' then, and nothing else has changed -/
def Run (b : Nat) (w : xW) (f : xO Int32) (r : Int32 × WL) : Prop := ∃ w', f = x_ret r.1 w' ∧ LsAt w' b r.2 ∧ Fr (blk b) w w'
/-- a position as a number -/
def posG (g : WL) (x : Int32) : Option Nat := if x < 0 ∨ nI g.n ≤ x then none else some x.toNatClampNeg
def isM (x : Int32) : Bool := decide (x = 110 ∨ x = 109 ∨ x = 115 ∨ x = 100 ∨ x = 108 ∨ x = 97)
def isT (x : Int32) : Bool := decide (¬ x < 0 ∧ ¬ 15 < x)
theorem X6_isMode (x : Int32) (w : xW) : f_X6_isMode x w = x_ret (if isM x = true then 1 else 0) w := by
  unfold f_X6_isMode isM
  repeat' split
  all_goals simp_all
theorem X6_isTone (x : Int32) (w : xW) : f_X6_isTone x w = x_ret (if isT x = true then 1 else 0) w := by
  unfold f_X6_isTone isT
  repeat' split
  all_goals simp_all
theorem isM_nar {x : Int32} (h : isM x = true) : x_nar 1 x = x := by
  rcases of_decide_eq_true h with rfl | rfl | rfl | rfl | rfl | rfl <;> decide
theorem isT_ok {x : Int32} (h : isT x = true) : okT x := by
  obtain ⟨h1, h2⟩ := of_decide_eq_true h
  obtain ⟨k, hk, rfl⟩ := nI_of h1
  exact Or.inr ⟨k, Nat.lt_of_not_le (fun hc => h2 (nI_lt (a := 15) (by omega) hk)), rfl⟩
theorem posG_or (g : WL) (hn : g.n ≤ 6) (x : Int32) : (∃ i, i < g.n ∧ x = nI i ∧ posG g x = some i) ∨ ((x < 0 ∨ nI g.n ≤ x) ∧ posG g x = none) := by
  rcases pos_or (show g.n < 2 ^ 31 by omega) x with ⟨i, hi, rfl⟩ | h
  · refine Or.inl ⟨i, hi, rfl, ?_⟩
    unfold posG
    rw [if_neg (fun hc => hc.elim (nI_pos (by omega)) (nI_ge hi (by omega))), nI_clamp (by omega)]
  · refine Or.inr ⟨h, ?_⟩
    unfold posG
    rw [if_pos h]
theorem upd_ok {u : Nat → Int32} {x : Int32} {k : Nat} (hu : ∀ c, c < 48 → okT (u c)) (hx : okT x) : ∀ c, c < 48 → okT (upd u k x c) := by
  intro c hc
  unfold upd
  split
  · exact hx
  · exact hu c hc
theorem foldl_ok {f : (Nat → Int32) → Nat → Nat → Int32} (hf : ∀ u k, (∀ c, c < 48 → okT (u c)) → ∀ c, c < 48 → okT (f u k c)) : ∀ (l : List Nat) (u : Nat → Int32), (∀ c, c < 48 → okT (u c)) → ∀ c, c < 48 → okT (l.foldl f u c)
  | [], u, hu => hu
  | k :: l, u, hu => foldl_ok hf l (f u k) (hf u k hu)
def begG (g : WL) (x : Int32) : WL := (g.num (g.n + 1) g.ps g.es).put (g.sg g.n) x 1 (fun c => if c < 48 then -1 else g.t g.n c)
def addG (g : WL) (x : Int32) : Int32 × WL := if isM x = true then (if g.n < 6 then (nI g.n, begG g x) else (-4, g)) else (-3, g)
def shwG (g : WL) (i : Nat) (y : Int32) : WL := g.put (g.sg i) (g.m i) y (g.t i)
def turnG (g : WL) (p y : Int32) : Int32 × WL := match posG g p with
  | none => (-2, g)
  | some i => if g.v i = y then (-4, g) else (nI (cnt g.n fun k => (shwG g i y).v k != 0), shwG g i y)
def rectT (l u r lo x : Int32) (t : Nat → Int32) : Nat → Int32 := rectF l.toNatClampNeg (r.toNatClampNeg + 1 - l.toNatClampNeg) u.toNatClampNeg (lo.toNatClampNeg + 1 - u.toNatClampNeg) x t
def tonesG (t : Nat → Int32) : Nat := cnt 48 fun c => t c != -1
def paintG (g : WL) (p l u r lo x : Int32) : Int32 × WL := match posG g p with
  | none => (-2, g)
  | some i => if isC l u = true ∧ isC r lo = true then (if r < l ∨ lo < u ∨ ¬ isT x = true then (-3, g) else (nI (tonesG (rectT l u r lo x (g.t i))) - nI (tonesG (g.t i)), (g.num g.n (g.ps + ((r - l) + 1) * ((lo - u) + 1)) g.es).put (g.sg i) (g.m i) (g.v i) (rectT l u r lo x (g.t i)))) else (-2, g)
def clrT (x y r : Int32) (t : Nat → Int32) : Nat → Int32 := fun c => if c < 48 ∧ inCi x y r c = true then -1 else t c
def eraseG (g : WL) (p x y r : Int32) : Int32 × WL := match posG g p with
  | none => (-2, g)
  | some i => if isC x y = true then (if r < 0 ∨ ¬ r ≤ 9 then (-3, g) else (nI (tonesG (g.t i)) - nI (tonesG (clrT x y r (g.t i))), (g.num g.n g.ps (g.es + (nI (tonesG (g.t i)) - nI (tonesG (clrT x y r (g.t i)))))).put (g.sg i) (g.m i) (g.v i) (clrT x y r (g.t i)))) else (-2, g)
def castG (g : WL) (p hr : Int32) : Int32 × WL := match posG g p with
  | none => (-2, g)
  | some i => if hr < 6 ∨ ¬ hr ≤ 18 then (-3, g) else if g.n < 6 then
      (nI (tonesG (fo 48 (shF (g.t i) (hr - 12)) (fun c => if c < 48 then -1 else g.t g.n c))),
        (g.num (g.n + 1) (g.ps + nI (tonesG (fo 48 (shF (g.t i) (hr - 12)) (fun c => if c < 48 then -1 else g.t g.n c)))) g.es).put (g.sg g.n) 109 1 (fo 48 (shF (g.t i) (hr - 12)) (fun c => if c < 48 then -1 else g.t g.n c)))
    else (-4, g)
section X4d
variable {w : xW} {b : Nat} {g : WL}
theorem Run.stay (h : LsAt w b g) (r : Int32) : Run b w (x_ret r w) (r, g) := ⟨w, rfl, h, Fr.rf⟩
theorem X4_begin_no (h : LsAt w b g) (x : Int32) (hn : ¬ g.n < 6) : f_X4_beginLayer b x w = x_ret none w := by
  simp only [f_X4_beginLayer, h.g1, ob]
  rw [if_neg (show ¬ nI g.n < 6 from nI_nlt (b := 6) (by omega) (by have := h.n6; omega))]
theorem X4_addOnTop (h : LsAt w b g) (x : Int32) : Run b w (f_X4_addOnTop b x w) (addG g x) := by
  simp only [f_X4_addOnTop, X6_isMode, x_br, h.o, if_true]
  by_cases hm : isM x = true
  · rw [if_pos hm, if_neg (by decide)]
    by_cases hn : g.n < 6
    · obtain ⟨w', e, h1, hf⟩ := X4_beginLayer h (isM_nar hm) hn
      refine ⟨w', ?_, by rw [show addG g x = (nI g.n, begG g x) by simp [addG, hm, hn]]; exact h1, hf⟩
      rw [e]
      simp only [x_br, oe, h1.g1, ob]
      rw [show addG g x = (nI g.n, begG g x) by simp [addG, hm, hn]]
      show x_ret (nI (g.n + 1) - 1) w' = _
      rw [nI_pred]
    · rw [X4_begin_no h x hn, x_br, oen, show addG g x = (-4, g) by simp [addG, hm, hn]]
      exact Run.stay h _
  · rw [if_neg hm, if_pos rfl, show addG g x = (-3, g) by simp [addG, hm]]
    exact Run.stay h _
theorem X4_turnVisible (h : LsAt w b g) (p : Int32) {y : Int32} (hy : x_nar 2 y = y) : Run b w (f_X4_turnVisible b p y w) (turnG g p y) := by
  have h6 := h.n6
  rcases posG_or g h6 p with ⟨i, hi, rfl, hp⟩ | ⟨hq, hp⟩
  · have hl := h.ly (i := i) (by omega)
    have hs := h.2.2.2.1 i (by omega)
    have hc := h.2.2.2.2.2.1 _ hs
    simp only [f_X4_turnVisible, h.o, if_true, X4_at h hi, x_br, oe, hl.g1, ob, hy]
    by_cases hv : g.v i = y
    · rw [if_pos hv, show turnG g (nI i) y = (-4, g) by simp [turnG, hp, hv]]
      exact Run.stay h _
    · rw [if_neg hv, hl.p1]
      have h1 := h.slot hs hc.1 hy (h.2.2.2.2.2.2 _ · hs) (hl.s0 (g.m i) y) (Fr.set (Or.inl rfl))
      refine ⟨_, ?_, by rw [show turnG g (nI i) y = (nI (cnt g.n fun k => (shwG g i y).v k != 0), shwG g i y) by simp [turnG, hp, hv]]; exact h1, (Fr.set (Or.inl rfl)).mono (slot_blk hs)⟩
      simp only [ob, h1.o, if_true, X4_countVisible h1, x_br]
      rw [show turnG g (nI i) y = (nI (cnt g.n fun k => (shwG g i y).v k != 0), shwG g i y) by simp [turnG, hp, hv]]
      rfl
  · simp only [f_X4_turnVisible, h.o, if_true, X4_at_no h hq, x_br, oen]
    rw [show turnG g p y = (-2, g) by simp [turnG, hp]]
    exact Run.stay h _
end X4d
