/-! ===== the model's changes: erased ===== -/
theorem cnt_split (n : Nat) (p q : Nat → Bool) : cnt n p = cnt n (fun k => p k && q k) + cnt n (fun k => p k && !q k) := by
  unfold cnt
  induction n with
  | zero => rfl
  | succ n ih =>
    rw [List.range_succ, List.countP_append, List.countP_append, List.countP_append, ih]
    by_cases h1 : p n = true
    · by_cases h2 : q n = true
      · simp [List.countP_cons, h1, h2]; omega
      · simp [List.countP_cons, h1, h2]; omega
    · simp [List.countP_cons, h1]
section X7f
variable {w : xW} {c : Nat} {F : Nat → Int32} {ar : Nat → Nat → Int32} {g : WL}
/-- the cells of the circle emptied in the array -/
def clrS (l : Nat) (x y r : Int32) (u : Nat → Int32) (k : Nat) : Nat → Int32 := if inCi x y r k = true then upd u (3 + 50 * l + 2 + k) 0 else u
theorem upd_same {u : Nat → Int32} {k : Nat} {x : Int32} (h : u k = x) : upd u k x = u := by
  funext j
  unfold upd
  by_cases hj : j = k
  · rw [if_pos hj, hj, h]
  · rw [if_neg hj]
/-- the end of an erasure -/
def eraE (c : Nat) (x5 : Int32) (w0 : xW) : xO Int32 := (x_getr w0 c 7 1).bind fun v12 => (v12).elim none fun a13 => (x_ild w0 a13 0 2).bind fun v14 => (x_ist w0 a13 0 2 (v14 + x5)).bind fun w15 => if x_isO w15 c 7 = true then (x_bind (f_X7_done c x5 w15) fun r17 w16 => x_ret r17 w16) else none
theorem X7_era_L (h : MoAt w c F ar) {l : Nat} (hl : l < 6) (x y r : Int32) : ∀ (d k n acc : Nat) (u : Nat → Int32), k + d = 48 → d < n → (∀ q, k ≤ q → q < 48 → u (3 + 50 * l + 2 + q) = st (ar 1) l q) →
    f_X7_erases_L37 n c (nI l) x y r (nI acc) (nI k) (wA w c 1 u) = eraE c (nI (acc + (List.range' k d).countP fun q => inCi x y r q && !(st (ar 1) l q == 0))) (wA w c 1 ((List.range' k d).foldl (clrS l x y r) u)) := by
  intro d
  induction d with
  | zero =>
    intro k n acc u hk hn hu
    obtain ⟨n, rfl⟩ : ∃ m, n = m + 1 := ⟨n - 1, by omega⟩
    simp only [f_X7_erases_L37]
    rw [if_pos (show (48 : Int32) ≤ nI k from nI_le (a := 48) (by omega) (by omega))]
    rfl
  | succ d ih =>
    intro k n acc u hk hn hu
    obtain ⟨n, rfl⟩ : ∃ m, n = m + 1 := ⟨n - 1, by omega⟩
    have h1 := h.sA 1 (by omega) (by omega) u
    have e1 : f_X7_at c (nI l) (nI k) (wA w c 1 u) = x_ret (st (ar 1) l k) (wA w c 1 u) := by
      rw [← hu k (Nat.le_refl _) (by omega)]
      exact X7_at h1 hl (by omega)
    have e2 : f_X7_sets c (nI l) (nI k) 0 (wA w c 1 u) = x_ret () (wA w c 1 (upd u (3 + 50 * l + 2 + k) 0)) := by
      have := X7_sets h1 hl (show k < 48 by omega) 0
      refine this.trans ?_
      show x_ret () (wA (wA w c 1 u) c 1 (upd u (3 + 50 * l + 2 + k) 0)) = _
      rw [wA_wA]
    have hu' : ∀ q, k + 1 ≤ q → q < 48 → upd u (3 + 50 * l + 2 + k) 0 (3 + 50 * l + 2 + q) = st (ar 1) l q := fun q h2 h3 => by
      unfold upd
      rw [if_neg (by omega)]
      exact hu q (by omega) h3
    simp only [f_X7_erases_L37, h1.o, if_true, e1, e2, x_br]
    rw [if_neg (show ¬ (48 : Int32) ≤ nI k from nI_ge (b := 48) (by omega) (by omega)), ← nI_succ k, show List.range' k (d + 1) = k :: List.range' (k + 1) d from rfl, List.foldl_cons]
    by_cases hc : r * r < (((nI k - nI k / 8 * 8) - x) * ((nI k - nI k / 8 * 8) - x)) + (((nI k / 8) - y) * ((nI k / 8) - y))
    · have hi : inCi x y r k = false := by simp [inCi, hc]
      rw [if_pos hc, ih _ _ _ _ (by omega) (by omega) (fun q h2 h3 => hu q (by omega) h3), List.countP_cons_of_neg (by simp [hi]), show clrS l x y r u k = u by simp [clrS, hi]]
    · have hi : inCi x y r k = true := by simp [inCi, hc]
      rw [if_neg hc]
      by_cases h0 : st (ar 1) l k = 0
      · rw [if_pos h0, ih _ _ _ _ (by omega) (by omega) (fun q h2 h3 => hu q (by omega) h3), List.countP_cons_of_neg (by simp [h0]), show clrS l x y r u k = u by
          unfold clrS
          rw [if_pos hi]
          exact upd_same ((hu k (Nat.le_refl _) (by omega)).trans h0)]
      · rw [if_neg h0, ← nI_succ acc, ih _ _ _ _ (by omega) (by omega) hu', List.countP_cons_of_pos (by simp [hi, h0]), show clrS l x y r u k = upd u (3 + 50 * l + 2 + k) 0 by
          unfold clrS
          rw [if_pos hi]]
        congr 2
        omega
end X7f
