/-! ===== the model's changes: a layer taken away ===== -/
section X7i
variable {w : xW} {c : Nat} {F : Nat → Int32} {ar : Nat → Nat → Int32} {g : WL}
theorem X7_tk_L (h : MoAt w c F ar) {lf : Nat} (hlf : lf < 6) : ∀ (d k n : Nat) (u : Nat → Int32), k + d = 50 * lf → d < n → (∀ j, 3 + k ≤ j → u j = ar 1 j) →
    ∃ u' : Nat → Int32, f_X7_takes_L14 n c (nI lf) (nI k) (wA w c 1 u) = f_X7_takes_L49 xfuel c (nI lf) 0 (wA w c 1 u') ∧ ∀ j, u' j = if 3 + k ≤ j ∧ j < 3 + 50 * lf then ar 1 (j + 50) else u j := by
  intro d
  induction d with
  | zero =>
    intro k n u hk hn hu
    obtain ⟨n, rfl⟩ : ∃ m, n = m + 1 := ⟨n - 1, by omega⟩
    refine ⟨u, ?_, fun j => by rw [if_neg (by omega)]⟩
    simp only [f_X7_takes_L14]
    rw [show (50 : Int32) * nI lf = nI (50 * lf) by rw [show (50 : Int32) = nI 50 from rfl, nI_mul], if_pos (nI_le (by omega) (by omega))]
  | succ d ih =>
    intro k n u hk hn hu
    obtain ⟨n, rfl⟩ : ∃ m, n = m + 1 := ⟨n - 1, by omega⟩
    have h1 := h.sA 1 (by omega) (by omega) u
    have e1 : x_ild (wA w c 1 u) (c + 1) 0 (nI (3 + k + 50)) = some (ar 1 (3 + k + 50)) := by
      rw [← hu (3 + k + 50) (by omega)]
      exact h1.ld 1 (by omega) (by omega) (i := 3 + k + 50) (by show _ < 303; omega)
    have e2 : x_ist (wA w c 1 u) (c + 1) 0 (nI (3 + k)) (ar 1 (3 + k + 50)) = some (wA (wA w c 1 u) c 1 (upd u (3 + k) (ar 1 (3 + k + 50)))) := h1.st 1 (by omega) (by omega) (i := 3 + k) (by show _ < 303; omega) _
    obtain ⟨u', e3, e4⟩ := ih (k + 1) n (upd u (3 + k) (ar 1 (3 + k + 50))) (by omega) (by omega) (fun j hj => by
      unfold upd
      rw [if_neg (by omega)]
      exact hu j (by omega))
    refine ⟨u', ?_, fun j => ?_⟩
    · simp only [f_X7_takes_L14, h1.r1, ob, oe]
      rw [show (50 : Int32) * nI lf = nI (50 * lf) by rw [show (50 : Int32) = nI 50 from rfl, nI_mul], if_neg (nI_ge (by omega) (by omega)), show (3 : Int32) + nI k = nI (3 + k) from nI_add 3 k, show nI (3 + k) + 50 = nI (3 + k + 50) from nI_add (3 + k) 50, e1, ob, e2, ob, ← nI_succ k, wA_wA]
      exact e3
    · rw [e4 j]
      unfold upd
      by_cases hj : j = 3 + k
      · subst hj
        rw [if_neg (by omega), if_pos rfl, if_pos (by omega)]
      · rw [if_neg hj]
        by_cases hb : 3 + k ≤ j ∧ j < 3 + 50 * lf
        · rw [if_pos (by omega), if_pos hb]
        · rw [if_neg (by omega), if_neg hb]
theorem X7_tz_L (h : MoAt w c F ar) {lf : Nat} (hlf : lf < 6) : ∀ (d k n : Nat) (u : Nat → Int32), k + d = 50 → d < n →
    ∃ u' : Nat → Int32, f_X7_takes_L49 n c (nI lf) (nI k) (wA w c 1 u) = x_ret () (wA w c 1 u') ∧ ∀ j, u' j = if j = 0 then nI lf else if 3 + 50 * lf + k ≤ j ∧ j < 3 + 50 * lf + 50 then 0 else u j := by
  intro d
  induction d with
  | zero =>
    intro k n u hk hn
    obtain ⟨n, rfl⟩ : ∃ m, n = m + 1 := ⟨n - 1, by omega⟩
    have h1 := h.sA 1 (by omega) (by omega) u
    have e2 : x_ist (wA w c 1 u) (c + 1) 0 0 (nI lf) = some (wA (wA w c 1 u) c 1 (upd u 0 (nI lf))) := h1.st 1 (by omega) (by omega) (i := 0) (by show _ < 303; omega) _
    refine ⟨upd u 0 (nI lf), ?_, fun j => ?_⟩
    · simp only [f_X7_takes_L49, h1.r1, ob, oe]
      rw [if_pos (show (50 : Int32) ≤ nI k from nI_le (a := 50) (by omega) (by omega)), e2, ob, wA_wA]
    · unfold upd
      by_cases hj : j = 0
      · rw [if_pos hj, if_pos hj]
      · rw [if_neg hj, if_neg hj, if_neg (by omega)]
  | succ d ih =>
    intro k n u hk hn
    obtain ⟨n, rfl⟩ : ∃ m, n = m + 1 := ⟨n - 1, by omega⟩
    have h1 := h.sA 1 (by omega) (by omega) u
    have e2 : x_ist (wA w c 1 u) (c + 1) 0 (nI (3 + 50 * lf + k)) 0 = some (wA (wA w c 1 u) c 1 (upd u (3 + 50 * lf + k) 0)) := h1.st 1 (by omega) (by omega) (i := 3 + 50 * lf + k) (by show _ < 303; omega) _
    obtain ⟨u', e3, e4⟩ := ih (k + 1) n (upd u (3 + 50 * lf + k) 0) (by omega) (by omega)
    refine ⟨u', ?_, fun j => ?_⟩
    · simp only [f_X7_takes_L49, h1.r1, ob, oe]
      rw [if_neg (show ¬ (50 : Int32) ≤ nI k from nI_ge (b := 50) (by omega) (by omega)), ix0, nI_add, e2, ob, ← nI_succ k, wA_wA]
      exact e3
    · rw [e4 j]
      unfold upd
      by_cases hj0 : j = 0
      · rw [if_pos hj0, if_pos hj0]
      · rw [if_neg hj0, if_neg hj0]
        by_cases hj : j = 3 + 50 * lf + k
        · rw [if_neg (by omega), if_pos hj, if_pos (by omega)]
        · rw [if_neg hj]
          by_cases hb : 3 + 50 * lf + k ≤ j ∧ j < 3 + 50 * lf + 50
          · rw [if_pos (by omega), if_pos hb]
          · rw [if_neg (by omega), if_neg hb]
/-- the array behind a layer taken away -/
theorem X7_takes (h : MoAt w c F ar) (r : RelS g (ar 1)) {l : Nat} (hl : l < g.n) : ∃ u', f_X7_takes c (nI l) w = x_ret () (wA w c 1 u') ∧ RelS (tkG g l) u' := by
  have h6 := r.2.2.2.1
  obtain ⟨u1, e1, s1⟩ := X7_tk_L h (lf := g.n - 1) (by omega) (50 * (g.n - 1) - 50 * l) (50 * l) xfuel (ar 1) (by omega) (by unfold xfuel; omega) (fun _ _ => rfl)
  obtain ⟨u2, e2, s2⟩ := X7_tz_L h (lf := g.n - 1) (by omega) 50 0 xfuel u1 (by omega) (by unfold xfuel; omega)
  rw [wA_self h (by omega) (by omega)] at e1
  rw [nI_0] at e2
  refine ⟨u2, ?_, ?_⟩
  · unfold f_X7_takes
    rw [h.r1, ob, oe, X7_n h, ob, r.1, show nI g.n - 1 = nI (g.n - 1) by rw [show g.n = (g.n - 1) + 1 by omega, nI_pred]; rfl, show (50 : Int32) * nI l = nI (50 * l) by rw [show (50 : Int32) = nI 50 from rfl, nI_mul], e1, e2]
  · obtain ⟨r1, r2, r3, r4, r5⟩ := r
    have key : ∀ j, 0 < j → j < 3 + 50 * (g.n - 1) → u2 j = if 3 + 50 * l ≤ j then ar 1 (j + 50) else ar 1 j := fun j h0 hj => by
      rw [s2 j, if_neg (by omega), if_neg (by omega), s1 j]
      by_cases hb : 3 + 50 * l ≤ j
      · rw [if_pos ⟨hb, hj⟩, if_pos hb]
      · rw [if_neg (by omega), if_neg hb]
    by_cases hn1 : g.n - 1 = 0
    · refine ⟨by rw [s2 0, if_pos rfl]; rfl, ?_, ?_, by show g.n - 1 ≤ 6; omega, fun q hq => absurd (show q < g.n - 1 from hq) (by omega)⟩
      · rw [s2 1, if_neg (by omega), if_neg (by omega), s1 1, if_neg (by omega)]; exact r2
      · rw [s2 2, if_neg (by omega), if_neg (by omega), s1 2, if_neg (by omega)]; exact r3
    · refine ⟨by rw [s2 0, if_pos rfl]; rfl, by rw [key 1 (by omega) (by omega), if_neg (by omega)]; exact r2, by rw [key 2 (by omega) (by omega), if_neg (by omega)]; exact r3, by show g.n - 1 ≤ 6; omega, fun q hq => ?_⟩
      have hq' : q < g.n - 1 := hq
      unfold sm sv st
      by_cases hlq : l ≤ q
      · have em : mvI l (g.n - 1) q = q + 1 := by unfold mvI; rw [if_neg (by omega), if_pos (by omega)]
        obtain ⟨b1, b2, b3, b4⟩ := r5 (q + 1) (by omega)
        have em' : (tkG g l).m q = g.m (q + 1) := by show g.md (g.sg (mvI l (g.n - 1) q)) = _; rw [em]; rfl
        have ev' : (tkG g l).v q = g.v (q + 1) := by show g.vi (g.sg (mvI l (g.n - 1) q)) = _; rw [em]; rfl
        have et' : (tkG g l).t q = g.t (q + 1) := by show g.to (g.sg (mvI l (g.n - 1) q)) = _; rw [em]; rfl
        rw [em', ev', et', key _ (by omega) (by omega), if_pos (by omega), key _ (by omega) (by omega), if_pos (by omega)]
        refine ⟨b1, ?_, b3, fun k hk => ?_⟩
        · rw [← b2]; show ar 1 _ = ar 1 _; congr 1
        · rw [key _ (by omega) (by omega), if_pos (by omega)]
          have := b4 k hk
          rw [show 3 + 50 * q + 2 + k + 50 = 3 + 50 * (q + 1) + 2 + k by omega]
          exact this
      · have em : mvI l (g.n - 1) q = q := by unfold mvI; rw [if_neg (by omega), if_neg (by omega), if_neg (by omega)]
        have em' : (tkG g l).m q = g.m q := by show g.md (g.sg (mvI l (g.n - 1) q)) = _; rw [em]; rfl
        have ev' : (tkG g l).v q = g.v q := by show g.vi (g.sg (mvI l (g.n - 1) q)) = _; rw [em]; rfl
        have et' : (tkG g l).t q = g.t q := by show g.to (g.sg (mvI l (g.n - 1) q)) = _; rw [em]; rfl
        obtain ⟨b1, b2, b3, b4⟩ := r5 q (by omega)
        rw [em', ev', et', key _ (by omega) (by omega), if_neg (by omega), key _ (by omega) (by omega), if_neg (by omega)]
        refine ⟨b1, b2, b3, fun k hk => ?_⟩
        rw [key _ (by omega) (by omega), if_neg (by omega)]
        exact b4 k hk
end X7i
