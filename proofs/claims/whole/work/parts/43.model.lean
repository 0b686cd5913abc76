/-! ===== the model's cells ===== -/
def moF (c : Nat) (F : Nat → Int32) : List Value := [.int (F 0), .ref (c + 1), .ref (c + 2), .ref (c + 3), .ref (c + 4), .int (F 5), .int (F 6), .ref (c + 5), .ref (c + 6), .ref (c + 7), .ref (c + 8), .ref (c + 9), .ref (c + 10), .int (F 13), .int (F 14), .int (F 15), .int (F 16), .int (F 17), .int (F 18), .int (F 19), .int (F 20), .int (F 21)]
def moN : Nat → Nat := fun k => match k with
  | 1 => 303
  | 2 => 303
  | 3 => 303
  | 4 => 2424
  | 5 => 60
  | 6 => 420
  | 7 => 40
  | 8 => 48
  | 9 => 48
  | _ => 50
def MoAt (w : xW) (c : Nat) (F : Nat → Int32) (ar : Nat → Nat → Int32) : Prop := w.2 c = some (.inr (7, moF c F)) ∧ ∀ k, 1 ≤ k → k ≤ 10 → w.2 (c + k) = some (.inl (0, moN k, .inl (ar k)))
def moc (c : Nat) : Nat → Prop := fun q => c ≤ q ∧ q < c + 11
theorem moN_lt (k : Nat) : moN k < 2 ^ 31 := by
  unfold moN
  split <;> decide
section MO
variable {w : xW} {c : Nat} {F : Nat → Int32} {ar : Nat → Nat → Int32}
theorem MoAt.o (h : MoAt w c F ar) : x_isO w c 7 = true := by simp [x_isO, h.1]
theorem MoAt.g0 (h : MoAt w c F ar) : x_geti w c 7 0 = some (F 0) := by simp [x_geti, x_get, h.1, moF, x_vi]
theorem MoAt.p0 (h : MoAt w c F ar) (v : Int32) : x_put w c 7 0 (.int v) = some (xset w c (.inr (7, moF c (upd F 0 v)))) := by simp [x_put, h.1, moF, upd]
theorem MoAt.g5 (h : MoAt w c F ar) : x_geti w c 7 5 = some (F 5) := by simp [x_geti, x_get, h.1, moF, x_vi]
theorem MoAt.p5 (h : MoAt w c F ar) (v : Int32) : x_put w c 7 5 (.int v) = some (xset w c (.inr (7, moF c (upd F 5 v)))) := by simp [x_put, h.1, moF, upd]
theorem MoAt.g6 (h : MoAt w c F ar) : x_geti w c 7 6 = some (F 6) := by simp [x_geti, x_get, h.1, moF, x_vi]
theorem MoAt.p6 (h : MoAt w c F ar) (v : Int32) : x_put w c 7 6 (.int v) = some (xset w c (.inr (7, moF c (upd F 6 v)))) := by simp [x_put, h.1, moF, upd]
theorem MoAt.g13 (h : MoAt w c F ar) : x_geti w c 7 13 = some (F 13) := by simp [x_geti, x_get, h.1, moF, x_vi]
theorem MoAt.p13 (h : MoAt w c F ar) (v : Int32) : x_put w c 7 13 (.int v) = some (xset w c (.inr (7, moF c (upd F 13 v)))) := by simp [x_put, h.1, moF, upd]
theorem MoAt.g14 (h : MoAt w c F ar) : x_geti w c 7 14 = some (F 14) := by simp [x_geti, x_get, h.1, moF, x_vi]
theorem MoAt.p14 (h : MoAt w c F ar) (v : Int32) : x_put w c 7 14 (.int v) = some (xset w c (.inr (7, moF c (upd F 14 v)))) := by simp [x_put, h.1, moF, upd]
theorem MoAt.g15 (h : MoAt w c F ar) : x_geti w c 7 15 = some (F 15) := by simp [x_geti, x_get, h.1, moF, x_vi]
theorem MoAt.p15 (h : MoAt w c F ar) (v : Int32) : x_put w c 7 15 (.int v) = some (xset w c (.inr (7, moF c (upd F 15 v)))) := by simp [x_put, h.1, moF, upd]
theorem MoAt.g16 (h : MoAt w c F ar) : x_geti w c 7 16 = some (F 16) := by simp [x_geti, x_get, h.1, moF, x_vi]
theorem MoAt.p16 (h : MoAt w c F ar) (v : Int32) : x_put w c 7 16 (.int v) = some (xset w c (.inr (7, moF c (upd F 16 v)))) := by simp [x_put, h.1, moF, upd]
theorem MoAt.g17 (h : MoAt w c F ar) : x_geti w c 7 17 = some (F 17) := by simp [x_geti, x_get, h.1, moF, x_vi]
theorem MoAt.p17 (h : MoAt w c F ar) (v : Int32) : x_put w c 7 17 (.int v) = some (xset w c (.inr (7, moF c (upd F 17 v)))) := by simp [x_put, h.1, moF, upd]
theorem MoAt.g18 (h : MoAt w c F ar) : x_geti w c 7 18 = some (F 18) := by simp [x_geti, x_get, h.1, moF, x_vi]
theorem MoAt.p18 (h : MoAt w c F ar) (v : Int32) : x_put w c 7 18 (.int v) = some (xset w c (.inr (7, moF c (upd F 18 v)))) := by simp [x_put, h.1, moF, upd]
theorem MoAt.g19 (h : MoAt w c F ar) : x_geti w c 7 19 = some (F 19) := by simp [x_geti, x_get, h.1, moF, x_vi]
theorem MoAt.p19 (h : MoAt w c F ar) (v : Int32) : x_put w c 7 19 (.int v) = some (xset w c (.inr (7, moF c (upd F 19 v)))) := by simp [x_put, h.1, moF, upd]
theorem MoAt.g20 (h : MoAt w c F ar) : x_geti w c 7 20 = some (F 20) := by simp [x_geti, x_get, h.1, moF, x_vi]
theorem MoAt.p20 (h : MoAt w c F ar) (v : Int32) : x_put w c 7 20 (.int v) = some (xset w c (.inr (7, moF c (upd F 20 v)))) := by simp [x_put, h.1, moF, upd]
theorem MoAt.g21 (h : MoAt w c F ar) : x_geti w c 7 21 = some (F 21) := by simp [x_geti, x_get, h.1, moF, x_vi]
theorem MoAt.p21 (h : MoAt w c F ar) (v : Int32) : x_put w c 7 21 (.int v) = some (xset w c (.inr (7, moF c (upd F 21 v)))) := by simp [x_put, h.1, moF, upd]
theorem MoAt.r1 (h : MoAt w c F ar) : x_getr w c 7 1 = some (some (c + 1)) := by simp [x_getr, x_get, h.1, moF, x_vr]
theorem MoAt.r2 (h : MoAt w c F ar) : x_getr w c 7 2 = some (some (c + 2)) := by simp [x_getr, x_get, h.1, moF, x_vr]
theorem MoAt.r3 (h : MoAt w c F ar) : x_getr w c 7 3 = some (some (c + 3)) := by simp [x_getr, x_get, h.1, moF, x_vr]
theorem MoAt.r4 (h : MoAt w c F ar) : x_getr w c 7 4 = some (some (c + 4)) := by simp [x_getr, x_get, h.1, moF, x_vr]
theorem MoAt.r7 (h : MoAt w c F ar) : x_getr w c 7 7 = some (some (c + 5)) := by simp [x_getr, x_get, h.1, moF, x_vr]
theorem MoAt.r8 (h : MoAt w c F ar) : x_getr w c 7 8 = some (some (c + 6)) := by simp [x_getr, x_get, h.1, moF, x_vr]
theorem MoAt.r9 (h : MoAt w c F ar) : x_getr w c 7 9 = some (some (c + 7)) := by simp [x_getr, x_get, h.1, moF, x_vr]
theorem MoAt.r10 (h : MoAt w c F ar) : x_getr w c 7 10 = some (some (c + 8)) := by simp [x_getr, x_get, h.1, moF, x_vr]
theorem MoAt.r11 (h : MoAt w c F ar) : x_getr w c 7 11 = some (some (c + 9)) := by simp [x_getr, x_get, h.1, moF, x_vr]
theorem MoAt.r12 (h : MoAt w c F ar) : x_getr w c 7 12 = some (some (c + 10)) := by simp [x_getr, x_get, h.1, moF, x_vr]
theorem MoAt.ld (h : MoAt w c F ar) (k : Nat) (h1 : 1 ≤ k) (h2 : k ≤ 10) {i : Nat} (hi : i < moN k) : x_ild w (c + k) 0 (nI i) = some (ar k i) := ild_of (h.2 k h1 h2) hi (moN_lt k)
theorem MoAt.st (h : MoAt w c F ar) (k : Nat) (h1 : 1 ≤ k) (h2 : k ≤ 10) {i : Nat} (hi : i < moN k) (x : Int32) : x_ist w (c + k) 0 (nI i) x = some (xset w (c + k) (.inl (0, moN k, .inl (upd (ar k) i x)))) := ist_of (h.2 k h1 h2) hi (moN_lt k) x
theorem MoAt.sF (h : MoAt w c F ar) (F' : Nat → Int32) : MoAt (xset w c (.inr (7, moF c F'))) c F' ar := ⟨xset_at _ _ _, fun k h1 h2 => (xset_ne (by omega)).trans (h.2 k h1 h2)⟩
theorem MoAt.sA (h : MoAt w c F ar) (k : Nat) (h1 : 1 ≤ k) (h2 : k ≤ 10) (u : Nat → Int32) : MoAt (xset w (c + k) (.inl (0, moN k, .inl u))) c F (fun j => if j = k then u else ar j) := by
  refine ⟨(xset_ne (by omega)).trans h.1, fun j g1 g2 => ?_⟩
  show (xset w (c + k) (.inl (0, moN k, .inl u))).2 (c + j) = some (.inl (0, moN j, .inl (if j = k then u else ar j)))
  by_cases hj : j = k
  · subst hj
    rw [xset_at, if_pos rfl]
  · rw [if_neg hj]
    exact (xset_ne (by omega)).trans (h.2 j g1 g2)
theorem MoAt.fr {w' : xW} (h : MoAt w c F ar) {A : Nat → Prop} (hf : Fr A w w') (hA : ∀ q, moc c q → ¬ A q) : MoAt w' c F ar :=
  ⟨(hf.2 _ (hA _ ⟨by omega, by omega⟩)).trans h.1, fun k h1 h2 => (hf.2 _ (hA _ ⟨by omega, by omega⟩)).trans (h.2 k h1 h2)⟩
end MO
/-! the places of the model's first array -/
theorem ix0 (l : Nat) : (3 : Int32) + 50 * nI l = nI (3 + 50 * l) := by
  rw [show (50 : Int32) = nI 50 from rfl, show (3 : Int32) = nI 3 from rfl, nI_mul, nI_add]
theorem ix1 (l : Nat) : (3 : Int32) + 50 * nI l + 1 = nI (3 + 50 * l + 1) := by rw [ix0, ← nI_succ]
theorem ix2 (l k : Nat) : (3 : Int32) + 50 * nI l + 2 + nI k = nI (3 + 50 * l + 2 + k) := by
  rw [ix0, show (2 : Int32) = nI 2 from rfl, nI_add, nI_add]
/-- of the array: mode, visible, one more than the tone -/
def sm (S : Nat → Int32) (l : Nat) : Int32 := S (3 + 50 * l)
def sv (S : Nat → Int32) (l : Nat) : Int32 := S (3 + 50 * l + 1)
def st (S : Nat → Int32) (l k : Nat) : Int32 := S (3 + 50 * l + 2 + k)
section X7
variable {w : xW} {c : Nat} {F : Nat → Int32} {ar : Nat → Nat → Int32}
theorem X7_in (x lo hi : Int32) (w : xW) : f_X7_in x lo hi w = x_ret (if ¬ x < lo ∧ ¬ hi < x then 1 else 0) w := by
  unfold f_X7_in
  by_cases h1 : x < lo
  · simp [h1]
  · by_cases h2 : hi < x
    · simp [h1, h2]
    · simp [h1, h2]
theorem X7_isMode (x : Int32) (w : xW) : f_X7_isMode x w = x_ret (if isM x = true then 1 else 0) w := by
  unfold f_X7_isMode isM
  repeat' split
  all_goals simp_all
theorem le_lt {x : Int32} {k : Nat} (hk : k + 1 < 2 ^ 31) : (nI (k + 1) ≤ x) = (nI k < x) := by
  apply propext
  rw [Int32.le_iff_toInt_le, Int32.lt_iff_toInt_lt, nI_toInt hk, nI_toInt (by omega)]
  omega
theorem X7_isCell (x y : Int32) (w : xW) : f_X7_isCell x y w = x_ret (if isC x y = true then 1 else 0) w := by
  simp only [f_X7_isCell, X7_in, x_br]
  have e1 : (8 ≤ x) = (7 < x) := le_lt (k := 7) (by omega)
  have e2 : (6 ≤ y) = (5 < y) := le_lt (k := 5) (by omega)
  unfold isC
  simp only [e1, e2]
  by_cases h1 : x < 0
  · simp [h1]
  · by_cases h2 : 7 < x
    · simp [h1, h2]
    · by_cases h3 : y < 0
      · simp [h1, h2, h3]
      · by_cases h4 : 5 < y
        · simp [h1, h2, h3, h4]
        · simp [h1, h2, h3, h4]
theorem X7_at (h : MoAt w c F ar) {l k : Nat} (hl : l < 6) (hk : k < 48) : f_X7_at c (nI l) (nI k) w = x_ret (st (ar 1) l k) w := by
  simp only [f_X7_at, h.r1, ob, oe, ix2, h.ld 1 (by omega) (by omega) (show 3 + 50 * l + 2 + k < moN 1 by show _ < 303; omega)]
  rfl
theorem X7_mode0 (h : MoAt w c F ar) {l : Nat} (hl : l < 6) : f_X7_mode0 c (nI l) w = x_ret (sm (ar 1) l) w := by
  simp only [f_X7_mode0, h.r1, ob, oe, ix0, h.ld 1 (by omega) (by omega) (show 3 + 50 * l < moN 1 by show _ < 303; omega)]
  rfl
theorem X7_shown (h : MoAt w c F ar) {l : Nat} (hl : l < 6) : f_X7_shown c (nI l) w = x_ret (if sv (ar 1) l = 1 then 1 else 0) w := by
  simp only [f_X7_shown, h.r1, ob, oe, ix1, h.ld 1 (by omega) (by omega) (show 3 + 50 * l + 1 < moN 1 by show _ < 303; omega)]
  by_cases hv : sv (ar 1) l = 1
  · rw [if_pos hv, if_pos (show ar 1 (3 + 50 * l + 1) = 1 from hv)]
  · rw [if_neg hv, if_neg (show ¬ ar 1 (3 + 50 * l + 1) = 1 from hv)]
theorem X7_sets (h : MoAt w c F ar) {l k : Nat} (hl : l < 6) (hk : k < 48) (x : Int32) : f_X7_sets c (nI l) (nI k) x w = x_ret () (xset w (c + 1) (.inl (0, moN 1, .inl (upd (ar 1) (3 + 50 * l + 2 + k) x)))) := by
  simp only [f_X7_sets, h.r1, ob, oe, ix2, h.st 1 (by omega) (by omega) (show 3 + 50 * l + 2 + k < moN 1 by show _ < 303; omega)]
theorem X7_n (h : MoAt w c F ar) : x_ild w (c + 1) 0 0 = some (ar 1 0) := h.ld 1 (by omega) (by omega) (i := 0) (by show 0 < 303; omega)
/-- a position of the model -/
theorem X7_isLayer (h : MoAt w c F ar) {n : Nat} (hn : ar 1 0 = nI n) (h6 : n ≤ 6) (x : Int32) : f_X7_isLayer c x w = x_ret (if ¬ x < 0 ∧ ¬ nI n ≤ x then 1 else 0) w := by
  have e1 : (nI n - 1 < x) = (nI n ≤ x) ∨ n = 0 := by
    cases n with
    | zero => exact Or.inr rfl
    | succ k => exact Or.inl (by rw [nI_pred, le_lt (by omega)])
  simp only [f_X7_isLayer, h.r1, ob, oe, X7_n h, hn, X7_in, x_br]
  have key : (if ¬ x < 0 ∧ ¬ nI n - 1 < x then (1 : Int32) else 0) = if ¬ x < 0 ∧ ¬ nI n ≤ x then 1 else 0 := by
    rcases e1 with e1 | rfl
    · simp only [e1]
    · by_cases h1 : x < 0
      · simp [h1]
      · rw [if_neg (fun hc => ?_), if_neg (fun hc => ?_)]
        · exact hc.2 (Int32.not_lt.mp hc.1)
        · refine hc.2 ?_
          have h2 := Int32.le_iff_toInt_le.mp (Int32.not_lt.mp h1)
          rw [Int32.lt_iff_toInt_lt]
          have h3 : (nI 0 - 1).toInt = -1 := by decide
          have h4 : (0 : Int32).toInt = 0 := by decide
          rw [h3]
          rw [h4] at h2
          omega
  rw [key]
  by_cases h1 : ¬ x < 0 ∧ ¬ nI n ≤ x
  · rw [if_pos h1, if_pos (by decide)]
  · rw [if_neg h1, if_pos (by decide)]
end X7
