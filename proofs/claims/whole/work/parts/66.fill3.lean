/-! ===== areas: counted by filling, the largest ===== -/
section X1h
variable {w : xW} {a : Nat} {f : FW} {T : Nat → Int32} {lab : Nat → Nat}
/-- the cells of the areas before the k-th cell -/
def rK (lab : Nat → Nat) (k : Nat) (x : Nat) : Bool := decide (lab x < k)
theorem rK_clo (L : Lab T lab) (k : Nat) : Clo T (rK lab k) := L.clo (fun z => decide (z < k))
theorem rK_self (L : Lab T lab) {k : Nat} (hk : k < 48) : (rK lab k k = true) = (lab k ≠ k) := by
  have := L.1 k hk
  unfold rK
  apply propext
  rw [decide_eq_true_iff]
  omega
theorem rK_next (L : Lab T lab) {k x : Nat} (hk : k < 48) (hx : x < 48) : (rK lab k x || lab x == lab k) = rK lab (k + 1) x := by
  have h1 := L.1 k hk
  have h2 := L.idem hk
  have h3 := L.idem hx
  unfold rK
  by_cases h4 : lab x < k
  · simp [h4]; omega
  · by_cases h5 : lab x = lab k
    · have : lab k < k + 1 := by omega
      simp [h5, this]
    · have h6 : ¬ lab x < k + 1 := fun hc => by
        have h7 : lab x = k := by omega
        rw [h7] at h3
        omega
      simp [h4, h5, h6]
theorem sizA_pos {k : Nat} (hk : k < 48) : 0 < sizA lab k := cnt_pos hk (by simp)
theorem sizA_le (k : Nat) : sizA lab k ≤ 48 := cnt_le _ _
theorem X1_fill_k (L : Lab T lab) (h : FwAt w a f) (hT : ∀ x, x < 48 → f.T x = T x) {k : Nat} (hk : k < 48) (hr : reB f (rK lab k)) :
    ∃ w' f', f_X1_fillAreaAt a (nI k) w = x_ret (nI (if lab k = k then sizA lab k else 0)) w' ∧ FwAt w' a f' ∧ Sam f f' ∧ reB f' (rK lab (k + 1)) ∧ Fr (fwc a) w w' := by
  obtain ⟨w', f', e, q1, q2, q3, q4⟩ := X1_fillAreaAt L h hT hr (rK_clo L k) hk
  refine ⟨w', f', ?_, q1, q2, fun x hx => (q3 x hx).trans (by
    show (if (rK lab k x || lab x == lab k) = true then (1 : Int32) else 0) = _
    rw [rK_next L hk hx]), q4⟩
  rw [e]
  simp only [rK_self L hk]
  by_cases hc : lab k = k
  · rw [if_neg (fun h9 => h9 hc), if_pos hc]
  · rw [if_pos hc, if_neg hc]
theorem X1_cbf_L (L : Lab T lab) : ∀ (d k n acc : Nat) (w : xW) (f : FW), k + d = 48 → d < n → FwAt w a f → (∀ x, x < 48 → f.T x = T x) → reB f (rK lab k) →
    ∃ w' f', f_X1_countAreasByFilling_L8 n a (nI acc) (nI k) w = x_ret (nI (acc + (List.range' k d).countP fun x => lab x == x)) w' ∧ FwAt w' a f' ∧ Sam f f' ∧ Fr (fwc a) w w' := by
  intro d
  induction d with
  | zero =>
    intro k n acc w f hk hn h hT hr
    obtain ⟨n, rfl⟩ : ∃ m, n = m + 1 := ⟨n - 1, by omega⟩
    refine ⟨w, f, ?_, h, ⟨rfl, rfl⟩, Fr.rf⟩
    simp only [f_X1_countAreasByFilling_L8]
    rw [if_pos (show (48 : Int32) ≤ nI k from nI_le (a := 48) (by omega) (by omega))]
    rfl
  | succ d ih =>
    intro k n acc w f hk hn h hT hr
    obtain ⟨n, rfl⟩ : ∃ m, n = m + 1 := ⟨n - 1, by omega⟩
    obtain ⟨w1, f1, e1, p1, p2, p3, p4⟩ := X1_fill_k L h hT (show k < 48 by omega) hr
    have hT1 : ∀ x, x < 48 → f1.T x = T x := fun x hx => by rw [p2.1]; exact hT x hx
    have hs := sizA_pos (lab := lab) (show k < 48 by omega)
    have hs' := sizA_le (lab := lab) k
    simp only [f_X1_countAreasByFilling_L8, h.o, if_true, e1, x_br]
    rw [if_neg (show ¬ (48 : Int32) ≤ nI k from nI_ge (b := 48) (by omega) (by omega)), ← nI_succ k, List.range'_succ]
    by_cases hc : lab k = k
    · rw [if_pos hc, if_neg (nI_nle hs (by omega)), ← nI_succ acc]
      obtain ⟨w2, f2, e2, q1, q2, q3⟩ := ih (k + 1) n (acc + 1) w1 f1 (by omega) (by omega) p1 hT1 p3
      refine ⟨w2, f2, ?_, q1, p2.tr q2, p4.tr q3⟩
      rw [e2, List.countP_cons_of_pos (by simp [hc])]
      congr 2
      omega
    · rw [if_neg hc, if_pos (show nI 0 ≤ 0 by decide)]
      obtain ⟨w2, f2, e2, q1, q2, q3⟩ := ih (k + 1) n acc w1 f1 (by omega) (by omega) p1 hT1 p3
      refine ⟨w2, f2, ?_, q1, p2.tr q2, p4.tr q3⟩
      rw [e2, List.countP_cons_of_neg (by simp [hc])]
/-- how many areas there are -/
def numA (lab : Nat → Nat) : Nat := cnt 48 fun x => lab x == x
theorem reB_0 {f : FW} (h : reB f (fun _ => false)) : reB f (rK lab 0) := fun x hx => by
  rw [h x hx]
  simp [rK]
theorem X1_countAreasByFilling (L : Lab T lab) (h : FwAt w a f) (hT : ∀ x, x < 48 → f.T x = T x) :
    ∃ w' f', f_X1_countAreasByFilling a w = x_ret (nI (numA lab)) w' ∧ FwAt w' a f' ∧ Sam f f' ∧ Fr (fwc a) w w' := by
  obtain ⟨w1, f1, e1, p1, p2, p3, p4⟩ := X1_reachNothing h
  obtain ⟨w2, f2, e2, q1, q2, q3⟩ := X1_cbf_L L 48 0 xfuel 0 w1 f1 (by omega) (by unfold xfuel; omega) p1 (fun x hx => by rw [p2.1]; exact hT x hx) (reB_0 p3)
  rw [nI_0, Nat.zero_add, cntR] at e2
  refine ⟨w2, f2, ?_, q1, p2.tr q2, p4.tr q3⟩
  simp only [f_X1_countAreasByFilling, h.o, if_true, e1, x_br]
  exact e2
theorem X1_sizeOfAreaAt (L : Lab T lab) (h : FwAt w a f) (hT : ∀ x, x < 48 → f.T x = T x) {k : Nat} (hk : k < 48) :
    ∃ w' f', f_X1_sizeOfAreaAt a (nI k) w = x_ret (nI (sizA lab k)) w' ∧ FwAt w' a f' ∧ Sam f f' ∧ Fr (fwc a) w w' := by
  obtain ⟨w1, f1, e1, p1, p2, p3, p4⟩ := X1_reachNothing h
  obtain ⟨w2, f2, e2, q1, q2, q3, q4⟩ := X1_fillAreaAt L p1 (fun x hx => by rw [p2.1]; exact hT x hx) p3 (fun _ _ _ => rfl) hk
  refine ⟨w2, f2, ?_, q1, p2.tr q2, p4.tr q4⟩
  simp only [f_X1_sizeOfAreaAt, h.o, if_true, e1, x_br, p1.o]
  rw [e2, x_br]
  rfl
/-- the greatest size so far: of areas at their first cells, of all cells' areas -/
def mxF (lab : Nat → Nat) (M k : Nat) : Nat := if M < (if lab k = k then sizA lab k else 0) then (if lab k = k then sizA lab k else 0) else M
def mxM (lab : Nat → Nat) (M k : Nat) : Nat := if sizA lab k ≤ M then M else sizA lab k
theorem mx_both (L : Lab T lab) : ∀ (d k M : Nat), k + d ≤ 48 → (∀ j, j < k → sizA lab j ≤ M) → (List.range' k d).foldl (mxF lab) M = (List.range' k d).foldl (mxM lab) M
  | 0, _, _, _, _ => rfl
  | d + 1, k, M, hk, hM => by
    rw [show List.range' k (d + 1) = k :: List.range' (k + 1) d from rfl, List.foldl_cons, List.foldl_cons]
    have e : mxF lab M k = mxM lab M k := by
      unfold mxF mxM
      by_cases hc : lab k = k
      · rw [if_pos hc]
        by_cases h1 : M < sizA lab k
        · rw [if_pos h1, if_neg (by omega)]
        · rw [if_neg h1, if_pos (by omega)]
      · rw [if_neg hc, if_neg (Nat.not_lt_zero M)]
        have h1 := L.1 k (by omega)
        have h2 : sizA lab (lab k) = sizA lab k := by
          unfold sizA
          rw [L.idem (show k < 48 by omega)]
        have h3 := hM (lab k) (by omega)
        rw [if_pos (by omega)]
    rw [e]
    refine mx_both L d (k + 1) _ (by omega) (fun j hj => ?_)
    by_cases hjk : j = k
    · subst hjk
      unfold mxM
      split
      · assumption
      · exact Nat.le_refl _
    · have := hM j (by omega)
      unfold mxM
      split
      · exact this
      · omega
theorem mxF_le (lab : Nat → Nat) {M k : Nat} (hM : M ≤ 48) : mxF lab M k ≤ 48 := by
  have := sizA_le (lab := lab) k
  unfold mxF
  repeat' split
  all_goals omega
theorem mxM_le (lab : Nat → Nat) {M k : Nat} (hM : M ≤ 48) : mxM lab M k ≤ 48 := by
  have := sizA_le (lab := lab) k
  unfold mxM
  split <;> omega
theorem X1_lrg_L (L : Lab T lab) : ∀ (d k n M : Nat) (w : xW) (f : FW), k + d = 48 → d < n → M ≤ 48 → FwAt w a f → (∀ x, x < 48 → f.T x = T x) → reB f (rK lab k) →
    ∃ w' f', f_X1_sizeOfLargestArea_L8 n a (nI M) (nI k) w = x_ret (nI ((List.range' k d).foldl (mxF lab) M)) w' ∧ FwAt w' a f' ∧ Sam f f' ∧ Fr (fwc a) w w' := by
  intro d
  induction d with
  | zero =>
    intro k n M w f hk hn hM h hT hr
    obtain ⟨n, rfl⟩ : ∃ m, n = m + 1 := ⟨n - 1, by omega⟩
    refine ⟨w, f, ?_, h, ⟨rfl, rfl⟩, Fr.rf⟩
    simp only [f_X1_sizeOfLargestArea_L8]
    rw [if_pos (show (48 : Int32) ≤ nI k from nI_le (a := 48) (by omega) (by omega))]
    rfl
  | succ d ih =>
    intro k n M w f hk hn hM h hT hr
    obtain ⟨n, rfl⟩ : ∃ m, n = m + 1 := ⟨n - 1, by omega⟩
    obtain ⟨w1, f1, e1, p1, p2, p3, p4⟩ := X1_fill_k L h hT (show k < 48 by omega) hr
    have hs' := sizA_le (lab := lab) k
    have hv : (if lab k = k then sizA lab k else 0) ≤ 48 := by split <;> omega
    obtain ⟨w2, f2, e2, q1, q2, q3⟩ := ih (k + 1) n (mxF lab M k) w1 f1 (by omega) (by omega) (mxF_le lab hM) p1 (fun x hx => by rw [p2.1]; exact hT x hx) p3
    refine ⟨w2, f2, ?_, q1, p2.tr q2, p4.tr q3⟩
    simp only [f_X1_sizeOfLargestArea_L8, h.o, if_true, e1, x_br, J9_max]
    rw [if_neg (show ¬ (48 : Int32) ≤ nI k from nI_ge (b := 48) (by omega) (by omega)), ← nI_succ k, show List.range' k (d + 1) = k :: List.range' (k + 1) d from rfl, List.foldl_cons, ← e2]
    congr 1
    unfold mxF
    by_cases hc : M < (if lab k = k then sizA lab k else 0)
    · rw [if_pos (nI_lt hc (by omega)), if_pos hc]
    · rw [if_neg (nI_nlt (by omega) (by omega)), if_neg hc]
theorem X1_sizeOfLargestArea (L : Lab T lab) (h : FwAt w a f) (hT : ∀ x, x < 48 → f.T x = T x) :
    ∃ w' f', f_X1_sizeOfLargestArea a w = x_ret (nI (fo 48 (mxM lab) 0)) w' ∧ FwAt w' a f' ∧ Sam f f' ∧ Fr (fwc a) w w' := by
  obtain ⟨w1, f1, e1, p1, p2, p3, p4⟩ := X1_reachNothing h
  obtain ⟨w2, f2, e2, q1, q2, q3⟩ := X1_lrg_L L 48 0 xfuel 0 w1 f1 (by omega) (by unfold xfuel; omega) (by omega) p1 (fun x hx => by rw [p2.1]; exact hT x hx) (reB_0 p3)
  rw [mx_both L 48 0 0 (by omega) (fun j hj => absurd hj (Nat.not_lt_zero j)), fo_R, nI_0] at e2
  refine ⟨w2, f2, ?_, q1, p2.tr q2, p4.tr q3⟩
  simp only [f_X1_sizeOfLargestArea, h.o, if_true, e1, x_br]
  exact e2
end X1h
