/-! ===== the model's changes: hidden, shown ===== -/
section X7e
variable {w : xW} {c : Nat} {F : Nat → Int32} {ar : Nat → Nat → Int32} {g : WL}
theorem isLayer_if {n : Nat} {x : Int32} : (if ¬ x < 0 ∧ ¬ nI n ≤ x then (1 : Int32) else 0) = if x < 0 ∨ nI n ≤ x then 0 else 1 := by
  by_cases h1 : x < 0
  · simp [h1]
  · by_cases h2 : nI n ≤ x
    · simp [h1, h2]
    · simp [h1, h2]
theorem nI_nneg {k : Nat} (hk : k < 2 ^ 31) {v : Int32} (hv : v.toInt < 0) : nI k ≠ v := fun hc => by
  have h0 := nI_toInt hk
  rw [hc] at h0
  omega
def cdT (v : Int32) : Int32 := if v = -2 then 1 else if v = -4 then 2 else 0
theorem cdT_nI {k : Nat} (hk : k < 2 ^ 31) : cdT (nI k) = 0 := by
  unfold cdT
  rw [if_neg (nI_nneg hk (by decide)), if_neg (nI_nneg hk (by decide))]
/-- a layer's look written -/
theorem shw_rel {S : Nat → Int32} (r : RelS g S) {i : Nat} (hi : i < g.n) (hs : ∀ i j, i < 6 → j < 6 → g.sg i = g.sg j → i = j) {y : Int32} (hy : y = 0 ∨ y = 1) : RelS (shwG g i y) (upd S (3 + 50 * i + 1) y) := by
  obtain ⟨r1, r2, r3, r4, r5⟩ := r
  have hu : ∀ k, k ≠ 3 + 50 * i + 1 → upd S (3 + 50 * i + 1) y k = S k := fun k hk => by unfold upd; rw [if_neg hk]
  have hv : upd S (3 + 50 * i + 1) y (3 + 50 * i + 1) = y := by unfold upd; rw [if_pos rfl]
  refine ⟨by rw [hu 0 (by omega)]; exact r1, by rw [hu 1 (by omega)]; exact r2, by rw [hu 2 (by omega)]; exact r3, r4, fun l hl => ?_⟩
  have hl' : l < g.n := hl
  obtain ⟨b1, b2, b3, b4⟩ := r5 l hl'
  unfold sm sv st
  by_cases hli : l = i
  · subst hli
    have em : (shwG g l y).m l = g.m l := by simp [shwG, WL.m, WL.put, WL.md, WL.sg, WL.mk]
    have ev : (shwG g l y).v l = y := by simp [shwG, WL.v, WL.put, WL.vi, WL.sg, WL.mk]
    have et : (shwG g l y).t l = g.t l := by simp [shwG, WL.t, WL.put, WL.to, WL.sg, WL.mk]
    rw [em, ev, et, hu _ (by omega), hv]
    exact ⟨b1, rfl, hy, fun k hk => by rw [hu _ (by omega)]; exact b4 k hk⟩
  · have hne : g.sg l ≠ g.sg i := fun hc => hli (hs _ _ (by omega) (by omega) hc)
    have hne' : g.2.2.2.1 l ≠ g.2.2.2.1 i := hne
    have em : (shwG g i y).m l = g.m l := by simp [shwG, WL.m, WL.put, WL.md, WL.sg, WL.mk, hne']
    have ev : (shwG g i y).v l = g.v l := by simp [shwG, WL.v, WL.put, WL.vi, WL.sg, WL.mk, hne']
    have et : (shwG g i y).t l = g.t l := by simp [shwG, WL.t, WL.put, WL.to, WL.sg, WL.mk, hne']
    rw [em, ev, et, hu _ (by omega), hu _ (by omega)]
    exact ⟨b1, b2, b3, fun k hk => by rw [hu _ (by omega)]; exact b4 k hk⟩
theorem X7_turns (h : MoAt w c F ar) (r : RelS g (ar 1)) (hs : ∀ i j, i < 6 → j < 6 → g.sg i = g.sg j → i = j) (p : Int32) {y : Int32} (hy : y = 0 ∨ y = 1) : MRun cdT c w F ar (f_X7_turns c p y w) (turnG g p y) := by
  have h6 := r.2.2.2.1
  simp only [f_X7_turns, h.o, if_true, X7_isLayer h r.1 h6, x_br, isLayer_if]
  rcases posG_or g h6 p with ⟨i, hi, rfl, hp⟩ | ⟨hq, hp⟩
  · rw [if_neg (fun hc : nI i < 0 ∨ nI g.n ≤ nI i => hc.elim (nI_pos (by omega)) (nI_ge hi (by omega))), if_neg (by decide)]
    obtain ⟨b1, b2, b3, b4⟩ := r.2.2.2.2 i hi
    have e1 : x_ild w (c + 1) 0 (nI (3 + 50 * i + 1)) = some (g.v i) := by
      rw [← b2]
      exact h.ld 1 (by omega) (by omega) (i := 3 + 50 * i + 1) (by show _ < 303; omega)
    rw [h.r1, ob, oe, ix1, e1, ob]
    by_cases hv : g.v i = y
    · rw [if_pos hv, show turnG g (nI i) y = (-4, g) by simp [turnG, hp, hv]]
      exact MRun.stay h r (by decide) (by decide)
    · rw [if_neg hv]
      have e2 := h.st 1 (by omega) (by omega) (i := 3 + 50 * i + 1) (by show _ < 303; omega) y
      have h1 := h.sA 1 (by omega) (by omega) (upd (ar 1) (3 + 50 * i + 1) y)
      have r1 : RelS (shwG g i y) (upd (ar 1) (3 + 50 * i + 1) y) := shw_rel r hi hs hy
      have e3 := X7_showing h1 (g := shwG g i y) r1
      obtain ⟨w3, e4, h3, f3⟩ := X7_done h1 (nI (cnt g.n fun k => (shwG g i y).v k != 0))
      have ev : turnG g (nI i) y = (nI (cnt g.n fun k => (shwG g i y).v k != 0), shwG g i y) := by simp [turnG, hp, hv]
      have hq : cnt g.n (fun k => (shwG g i y).v k != 0) ≤ g.n := cnt_le _ _
      refine ⟨w3, upd F 17 _, _, ?_, h3, (wA_fr (by omega) _).tr f3, fun k hk => by unfold upd; rw [if_neg hk], fun k hk _ _ => by rw [if_neg hk], by rw [ev]; exact r1, fun _ => by rw [ev]; unfold upd; rw [if_pos rfl]⟩
      rw [ob, oe, e2, ob, if_pos h1.o, e3, x_br, if_pos h1.o]
      show x_bind (f_X7_done c (nI (cnt g.n fun k => (shwG g i y).v k != 0)) _) _ = _
      rw [e4, x_br, ev]
      show x_ret 0 w3 = x_ret (cdT (nI (cnt g.n fun k => (shwG g i y).v k != 0))) w3
      rw [cdT_nI (by omega)]
  · rw [if_pos hq, if_pos rfl, show turnG g p y = (-2, g) by simp [turnG, hp]]
    exact MRun.stay h r (by decide) (by decide)
end X7e
