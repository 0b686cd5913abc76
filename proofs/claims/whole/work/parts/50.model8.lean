/-! ===== the model's changes: erased, the end ===== -/
section X7g
variable {w : xW} {c : Nat} {F : Nat → Int32} {ar : Nat → Nat → Int32} {g : WL}
/-- other tones at a position -/
theorem put_rel {S S' : Nat → Int32} (r : RelS g S) (hs : ∀ i j, i < 6 → j < 6 → g.sg i = g.sg j → i = j) {i : Nat} (hi : i < g.n) {ps es : Int32} {u : Nat → Int32} (h0 : S' 0 = S 0) (h1 : S' 1 = ps) (h2 : S' 2 = es)
    (hm : ∀ l, l < g.n → sm S' l = sm S l ∧ sv S' l = sv S l) (ht : ∀ l, l < g.n → l ≠ i → ∀ k, k < 48 → st S' l k = st S l k) (hu : ∀ k, k < 48 → st S' i k = u k + 1 ∧ okT (u k)) : RelS ((g.num g.n ps es).put (g.sg i) (g.m i) (g.v i) u) S' := by
  obtain ⟨r1, r2, r3, r4, r5⟩ := r
  refine ⟨h0.trans r1, h1, h2, r4, fun l hl => ?_⟩
  have hl' : l < g.n := hl
  obtain ⟨b1, b2, b3, b4⟩ := r5 l hl'
  obtain ⟨m1, m2⟩ := hm l hl'
  rw [m1, m2, b1, b2]
  by_cases hli : l = i
  · subst hli
    have em : ((g.num g.n ps es).put (g.sg l) (g.m l) (g.v l) u).m l = g.m l := by simp [WL.m, WL.put, WL.num, WL.md, WL.sg, WL.mk]
    have ev : ((g.num g.n ps es).put (g.sg l) (g.m l) (g.v l) u).v l = g.v l := by simp [WL.v, WL.put, WL.num, WL.vi, WL.sg, WL.mk]
    have et : ((g.num g.n ps es).put (g.sg l) (g.m l) (g.v l) u).t l = u := by simp [WL.t, WL.put, WL.num, WL.to, WL.sg, WL.mk]
    rw [em, ev, et]
    exact ⟨rfl, rfl, b3, hu⟩
  · have hne : g.sg l ≠ g.sg i := fun hc => hli (hs _ _ (by omega) (by omega) hc)
    have hne' : g.2.2.2.1 l ≠ g.2.2.2.1 i := hne
    have em : ((g.num g.n ps es).put (g.sg i) (g.m i) (g.v i) u).m l = g.m l := by simp [WL.m, WL.put, WL.num, WL.md, WL.sg, WL.mk, hne']
    have ev : ((g.num g.n ps es).put (g.sg i) (g.m i) (g.v i) u).v l = g.v l := by simp [WL.v, WL.put, WL.num, WL.vi, WL.sg, WL.mk, hne']
    have et : ((g.num g.n ps es).put (g.sg i) (g.m i) (g.v i) u).t l = g.t l := by simp [WL.t, WL.put, WL.num, WL.to, WL.sg, WL.mk, hne']
    rw [em, ev, et]
    exact ⟨rfl, rfl, b3, fun k hk => by rw [ht l hl' hli k hk]; exact b4 k hk⟩
theorem fo_clr (l : Nat) (x y r : Int32) (u : Nat → Int32) : ∀ n : Nat, fo n (clrS l x y r) u = fun j => if 3 + 50 * l + 2 ≤ j ∧ j < 3 + 50 * l + 2 + n ∧ inCi x y r (j - (3 + 50 * l + 2)) = true then 0 else u j
  | 0 => by
    funext j
    rw [fo_zero, if_neg (by omega)]
  | n + 1 => by
    rw [fo_succ, fo_clr l x y r u n]
    funext j
    unfold clrS
    by_cases hi : inCi x y r n = true
    · rw [if_pos hi]
      show (if j = 3 + 50 * l + 2 + n then 0 else if 3 + 50 * l + 2 ≤ j ∧ j < 3 + 50 * l + 2 + n ∧ inCi x y r (j - (3 + 50 * l + 2)) = true then 0 else u j) = _
      by_cases hj : j = 3 + 50 * l + 2 + n
      · subst hj
        rw [if_pos rfl, Nat.add_sub_cancel_left, if_pos ⟨by omega, by omega, hi⟩]
      · have e : (j < 3 + 50 * l + 2 + n) = (j < 3 + 50 * l + 2 + (n + 1)) := propext ⟨fun h => by omega, fun h => by omega⟩
        rw [if_neg hj]
        simp only [e]
    · rw [if_neg hi]
      by_cases hj : j = 3 + 50 * l + 2 + n
      · subst hj
        rw [if_neg (by omega), if_neg (fun hc => hi (by have := hc.2.2; rw [Nat.add_sub_cancel_left] at this; exact this))]
      · have e : (j < 3 + 50 * l + 2 + n) = (j < 3 + 50 * l + 2 + (n + 1)) := propext ⟨fun h => by omega, fun h => by omega⟩
        simp only [e]
theorem nI_subc {a b d : Nat} (h : a = b + d) : nI a - nI b = nI d := by
  rw [nI_sub (by omega)]
  congr 1
  omega
def cdP (v : Int32) : Int32 := if v = -2 then 1 else if v = -3 then 2 else 0
theorem cdP_nI {k : Nat} (hk : k < 2 ^ 31) : cdP (nI k) = 0 := by
  unfold cdP
  rw [if_neg (nI_nneg hk (by decide)), if_neg (nI_nneg hk (by decide))]
theorem okT_st {x : Int32} (h : okT x) : (x + 1 == 0) = (x == -1) := by
  rcases h with rfl | ⟨k, hk, rfl⟩
  · decide
  · have h1 : ¬ nI (k + 1) = 0 := nI_ne0 (by omega) (by omega)
    have h2 : ¬ nI k = -1 := nI_nneg (by omega) (by decide)
    rw [← nI_succ, beq_eq_false_iff_ne.mpr h1, beq_eq_false_iff_ne.mpr h2]
/-- how many tones went -/
theorem clr_count (t : Nat → Int32) (x y r : Int32) : tonesG t = tonesG (clrT x y r t) + cnt 48 (fun q => inCi x y r q && !(t q == -1)) := by
  unfold tonesG
  rw [cnt_split 48 (fun q => t q != -1) (inCi x y r), Nat.add_comm]
  congr 1
  · exact cnt_congr (fun k hk => by
      unfold clrT
      by_cases hi : inCi x y r k = true
      · rw [if_pos ⟨hk, hi⟩]; simp [hi]
      · rw [if_neg (fun hc => hi hc.2)]; simp [hi])
  · exact cnt_congr (fun k hk => by rw [Bool.and_comm]; rfl)
end X7g
