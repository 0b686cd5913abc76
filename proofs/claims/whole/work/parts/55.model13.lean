/-! ===== the model merges: its loop walked ===== -/
section X7l
variable {w : xW} {c : Nat} {F : Nat → Int32} {ar : Nat → Nat → Int32} {g : WL}
/-- behind the loop -/
def mrgE (a0 : Nat) (x1 : Int32) (w0 : xW) : xO Int32 := if x_isO w0 a0 7 = true then (x_bind (f_X7_takes a0 x1 w0) fun _ w23 => if x_isO w23 a0 7 = true then (x_bind (f_X7_full a0 (x1 - 1) w23) fun r27 w26 => if x_isO w26 a0 7 = true then (x_bind (f_X7_done a0 r27 w26) fun r30 w29 => x_ret r30 w29) else none) else none) else none
theorem X7_mrg_L (h : MoAt w c F ar) {l : Nat} (hl : l + 1 < 6) : ∀ (d k n : Nat), k + d = 48 → d < n →
    f_X7_merges_L60 n c (nI (l + 1)) (nI k) (wA w c 1 (mrgS (ar 1) l k)) = mrgE c (nI (l + 1)) (wA w c 1 (mrgS (ar 1) l 48)) := by
  intro d
  induction d with
  | zero =>
    intro k n hk hn
    obtain ⟨n, rfl⟩ : ∃ m, n = m + 1 := ⟨n - 1, by omega⟩
    obtain rfl : k = 48 := by omega
    simp only [f_X7_merges_L60]
    rw [if_pos (show (48 : Int32) ≤ nI 48 from nI_le (a := 48) (by omega) (by omega))]
    rfl
  | succ d ih =>
    intro k n hk hn
    obtain ⟨n, rfl⟩ : ∃ m, n = m + 1 := ⟨n - 1, by omega⟩
    have h1 := h.sA 1 (by omega) (by omega) (mrgS (ar 1) l k)
    have e1 : f_X7_at c (nI (l + 1)) (nI k) (wA w c 1 (mrgS (ar 1) l k)) = x_ret (ar 1 (3 + 50 * l + 2 + k + 50)) (wA w c 1 (mrgS (ar 1) l k)) := by
      refine (X7_at h1 hl (show k < 48 by omega)).trans ?_
      show x_ret (mrgS (ar 1) l k (3 + 50 * (l + 1) + 2 + k)) _ = _
      rw [show 3 + 50 * (l + 1) + 2 + k = 3 + 50 * l + 2 + k + 50 by omega]
      unfold mrgS
      rw [if_neg (by omega)]
    have e2 := X7_sets h1 (show l < 6 by omega) (show k < 48 by omega) (ar 1 (3 + 50 * l + 2 + k + 50))
    simp only [f_X7_merges_L60, h1.o, if_true, e1, x_br, nI_pred, e2]
    rw [if_neg (show ¬ (48 : Int32) ≤ nI k from nI_ge (b := 48) (by omega) (by omega)), ← nI_succ k]
    have hs := mrgS_succ (ar 1) l k
    by_cases hc : ar 1 (3 + 50 * l + 2 + k + 50) ≤ 0
    · rw [if_pos hc] at hs
      rw [if_pos hc, ← hs]
      exact ih (k + 1) n (by omega) (by omega)
    · rw [if_neg hc] at hs
      rw [if_neg hc]
      show f_X7_merges_L60 n c (nI (l + 1)) (nI (k + 1)) (wA (wA w c 1 (mrgS (ar 1) l k)) c 1 (upd (mrgS (ar 1) l k) (3 + 50 * l + 2 + k) (ar 1 (3 + 50 * l + 2 + k + 50)))) = _
      rw [wA_wA, ← hs]
      exact ih (k + 1) n (by omega) (by omega)
end X7l
