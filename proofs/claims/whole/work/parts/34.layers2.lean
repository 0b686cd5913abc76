/-! ===== the stack of layers: what is read, the rest ===== -/
theorem fo_split {σ : Type} (f : σ → Nat → σ) (s : σ) : ∀ (d k : Nat), fo (k + d) f s = (List.range' k d).foldl f (fo k f s)
  | 0, k => rfl
  | d + 1, k => by
    rw [show k + (d + 1) = (k + 1) + d by omega, fo_split f s d (k + 1), fo_succ, List.range'_succ]
    rfl
/-- from below, the first that .. -/
def firG (p : Nat → Bool) : Nat → Nat → Option Nat
  | _, 0 => none
  | k, d + 1 => if p k then some k else firG p (k + 1) d
/-- how many tones the layer has -/
def tonG (g : WL) (i : Nat) : Nat := cnt 48 fun c => g.t i c != -1
/-- does the layer k rank before i -/
def ahdG (g : WL) (i k : Nat) : Bool := decide (tonG g i < tonG g k ∨ (tonG g k = tonG g i ∧ k < i))
section X4b
variable {w : xW} {b : Nat} {g : WL}
theorem blend_n (x t : Int32) : blendG 110 x t = t := by
  unfold blendG
  rw [if_neg (by decide), if_neg (by decide), if_neg (by decide), if_neg (by decide), if_neg (by decide)]
theorem over_n {g : WL} {c i : Nat} (hm : g.m i = 110) (hv : ¬ (g.v i = 0 ∨ g.t i c = -1)) (x y : Int32) : overF g c x i = overF g c y i := by
  unfold overF
  rw [if_neg hv, if_neg hv, hm, blend_n, blend_n]
theorem see_from {g : WL} {c i : Nat} (hi : i < g.n) (hm : g.m i = 110) (hv : ¬ (g.v i = 0 ∨ g.t i c = -1)) : (List.range' i (g.n - i)).foldl (overF g c) 15 = seeG g c := by
  obtain ⟨d, hd⟩ : ∃ d, g.n = i + (d + 1) := ⟨g.n - i - 1, by omega⟩
  unfold seeG
  rw [hd, fo_split, show i + (d + 1) - i = d + 1 by omega, List.range'_succ, List.foldl_cons, List.foldl_cons, over_n hm hv 15 (fo i (overF g c) 15)]
theorem X4_top_L (h : LsAt w b g) {c : Nat} (hc : c < 48) : ∀ (k n : Nat), k ≤ g.n → k < n → f_X4_toneFromTop_L7 n b (nI c) (nI k + (-1)) w = x_ret (seeG g c) w := by
  have h6 := h.n6
  intro k
  induction k with
  | zero =>
    intro n hk hn
    obtain ⟨n, rfl⟩ : ∃ m, n = m + 1 := ⟨n - 1, by omega⟩
    rw [nI_dn0]
    simp only [f_X4_toneFromTop_L7, h.o, if_true, X4_see h hc, x_br]
    rw [if_pos (by decide)]
  | succ k ih =>
    intro n hk hn
    obtain ⟨n, rfl⟩ : ∃ m, n = m + 1 := ⟨n - 1, by omega⟩
    rw [nI_dn]
    have hl := h.ly (show k < 6 by omega)
    simp only [f_X4_toneFromTop_L7, h.o, if_true, X4_at h (show k < g.n by omega), x_br, oe, hl.o, X3_hides hl hc]
    rw [if_neg (nI_pos (by omega))]
    by_cases hv : g.m k = 110 ∧ ¬ (g.v k = 0 ∨ g.t k c = -1)
    · rw [if_pos hv, if_neg (by decide), X4_toneFrom h hc (show k ≤ g.n by omega), x_br, see_from (by omega) hv.1 hv.2]
    · rw [if_neg hv, if_pos rfl, ih _ (by omega) (by omega)]
theorem X4_toneFromTop (h : LsAt w b g) {c : Nat} (hc : c < 48) : f_X4_toneFromTop b (nI c) w = x_ret (seeG g c) w := by
  simp only [f_X4_toneFromTop, h.g1, ob]
  rw [Int32.sub_eq_add_neg]
  exact X4_top_L h hc g.n xfuel (Nat.le_refl _) (by have := h.n6; unfold xfuel; omega)
theorem X4_tonesOf (h : LsAt w b g) {i : Nat} (hi : i < g.n) : f_X4_tonesOf b (nI i) w = x_ret (nI (tonG g i)) w := by
  have h6 := h.n6
  have hl := h.ly (show i < 6 by omega)
  simp only [f_X4_tonesOf, h.o, if_true, X4_at h hi, x_br, oe, hl.o, X3_countTones hl]
  rfl
theorem tonG_le (g : WL) (i : Nat) : tonG g i ≤ 48 := cnt_le _ _
theorem X4_ahead_L (h : LsAt w b g) {i : Nat} (hi : i < g.n) : ∀ (d k n acc : Nat), k + d = g.n → d < n → f_X4_countAhead_L11 n b (nI i) (nI (tonG g i)) (nI acc) (nI k) w = x_ret (nI (acc + (List.range' k d).countP (ahdG g i))) w := by
  have h6 := h.n6
  intro d
  induction d with
  | zero =>
    intro k n acc hk hn
    obtain ⟨n, rfl⟩ : ∃ m, n = m + 1 := ⟨n - 1, by omega⟩
    simp only [f_X4_countAhead_L11, h.g1, ob]
    rw [if_pos (nI_le (by omega) (by omega))]
    rfl
  | succ d ih =>
    intro k n acc hk hn
    obtain ⟨n, rfl⟩ : ∃ m, n = m + 1 := ⟨n - 1, by omega⟩
    have q1 := tonG_le g i
    have q2 := tonG_le g k
    simp only [f_X4_countAhead_L11, h.g1, ob, h.o, if_true, X4_tonesOf h (show k < g.n by omega), x_br]
    rw [if_neg (nI_ge (by omega) (by omega)), ← nI_succ k, ← nI_succ acc, List.range'_succ]
    simp only [nI_clt (show tonG g i < 2 ^ 31 by omega) (show tonG g k < 2 ^ 31 by omega), nI_ceq (show tonG g k < 2 ^ 31 by omega) (show tonG g i < 2 ^ 31 by omega), nI_cle (show i < 2 ^ 31 by omega) (show k < 2 ^ 31 by omega)]
    by_cases hc : tonG g i < tonG g k
    · rw [if_pos hc, ih _ _ _ (by omega) (by omega), List.countP_cons_of_pos (by simp [ahdG, hc])]
      congr 2
      omega
    · rw [if_neg hc]
      by_cases hd : tonG g k = tonG g i
      · rw [if_pos hd]
        by_cases he : i ≤ k
        · rw [if_pos he, ih _ _ _ (by omega) (by omega), List.countP_cons_of_neg (by simp [ahdG]; omega)]
        · rw [if_neg he, ih _ _ _ (by omega) (by omega), List.countP_cons_of_pos (by simp [ahdG]; omega)]
          congr 2
          omega
      · rw [if_neg hd, ih _ _ _ (by omega) (by omega), List.countP_cons_of_neg (by simp [ahdG]; omega)]
theorem X4_countAhead (h : LsAt w b g) {i : Nat} (hi : i < g.n) : f_X4_countAhead b (nI i) w = x_ret (nI (cnt g.n (ahdG g i))) w := by
  have h1 := X4_ahead_L h hi g.n 0 xfuel 0 (by omega) (by have := h.n6; unfold xfuel; omega)
  rw [Nat.zero_add, cntR] at h1
  simp only [f_X4_countAhead, h.o, if_true, X4_tonesOf h hi, x_br]
  exact h1
theorem X4_rank_L (h : LsAt w b g) (r : Int32) : ∀ (d k n : Nat), k + d = g.n → d < n → f_X4_positionOfRank_L2 n b r (nI k) w = x_ret ((firG (fun i => decide (nI (cnt g.n (ahdG g i)) = r)) k d).elim (-1) nI) w := by
  have h6 := h.n6
  intro d
  induction d with
  | zero =>
    intro k n hk hn
    obtain ⟨n, rfl⟩ : ∃ m, n = m + 1 := ⟨n - 1, by omega⟩
    simp only [f_X4_positionOfRank_L2, h.g1, ob]
    rw [if_pos (nI_le (by omega) (by omega))]
    rfl
  | succ d ih =>
    intro k n hk hn
    obtain ⟨n, rfl⟩ : ∃ m, n = m + 1 := ⟨n - 1, by omega⟩
    simp only [f_X4_positionOfRank_L2, h.g1, ob, h.o, if_true, X4_countAhead h (show k < g.n by omega), x_br]
    rw [if_neg (nI_ge (by omega) (by omega)), ← nI_succ k]
    by_cases hc : nI (cnt g.n (ahdG g k)) = r
    · rw [if_pos hc]
      simp [firG, hc]
    · rw [if_neg hc, ih _ _ (by omega) (by omega)]
      simp [firG, hc]
theorem X4_positionOfRank (h : LsAt w b g) (r : Int32) : f_X4_positionOfRank b r w = x_ret ((firG (fun i => decide (nI (cnt g.n (ahdG g i)) = r)) 0 g.n).elim (-1) nI) w := by
  unfold f_X4_positionOfRank
  exact X4_rank_L h r g.n 0 xfuel (by omega) (by have := h.n6; unfold xfuel; omega)
end X4b
