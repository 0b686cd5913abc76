/-! ===== calls that only read: tones counted, sums, areas ===== -/
def hA1 : String → Int32 := fun E => if E = IAE then 1 else 0
def hI1A2 : String → Int32 := fun E => if E = IOB then 1 else if E = IAE then 2 else 0
section RF
variable {w : xW} {z : Nat} {γ : CG} {F : Nat → Int32} {ar : Nat → Nat → Int32}
theorem in15 (x : Int32) : (if ¬ x < 0 ∧ ¬ 15 < x then (1 : Int32) else 0) = if isT x = true then 1 else 0 := by
  unfold isT
  by_cases h9 : ¬ x < 0 ∧ ¬ 15 < x
  · rw [if_pos h9, if_pos (decide_eq_true h9)]
  · rw [if_neg h9, if_neg (fun hc => h9 (of_decide_eq_true hc))]
theorem S_cellsWithTone (C : Cls w z γ) (R : Rel γ F ar) (x : Int32) : Sbs z w (f_X6_cellsWithTone z x w) (f_X7_cellsWithTone (z + 168) x) hA1 F ar := by
  by_cases hc : isT x = true
  · obtain ⟨w1, f, e1, q1, q2, q3, q4, q5⟩ := X6_flat C
    refine Rd_ret (b := nI (cnt 48 fun q => seeG γ.g q == x)) ⟨w1, ?_, q5, q4⟩ (fun w' M => ⟨wz w' (z + 168) F 0, ar, ?_, M.sF _, wF_fr _, fun _ _ => rfl⟩) R
    · simp only [f_X6_cellsWithTone, X6_isTone, x_br]
      rw [if_pos hc, if_neg (by decide), if_pos C.o, e1, x_br, oe, if_pos q1.o, X1_countTone q1, x_br, cnt_congr (fun k hk => by rw [q2 k hk])]
      rfl
    · have h1 := M.sF (upd F 0 0)
      have e2 := X7_cellsOf h1 (g := γ.g) R.1 x
      simp only [f_X7_cellsWithTone, X7_in, x_br, in15]
      rw [if_pos hc, if_neg (by decide), M.p0, ob, M.gz, ob, if_pos (by decide), if_pos h1.o, e2, x_br]
  · refine Rd_thr (E := IAE) (cd := 1) (b := 0) (C.rd ?_) (fun w' M => ⟨wz w' (z + 168) F 1, ar, ?_, M.sF _, wF_fr _, fun _ _ => rfl⟩) R (by decide) (by decide)
    · simp only [f_X6_cellsWithTone, X6_isTone, x_br]
      rw [if_neg hc, if_pos rfl]
      rfl
    · simp only [f_X7_cellsWithTone, X7_in, x_br, in15]
      rw [if_neg hc, if_pos rfl, M.p0, ob, M.gz, ob, if_neg (by decide)]
theorem S_commonestTone (C : Cls w z γ) (R : Rel γ F ar) (H : String → Int32) : Sbs z w (f_X6_commonestTone z w) (f_X7_commonestTone (z + 168)) H F ar := by
  obtain ⟨w1, f, e1, q1, q2, q3, q4, q5⟩ := X6_flat C
  refine Rd_ret (b := nI ((List.range' 1 15).foldl (bestM (seeG γ.g)) 0)) ⟨w1, ?_, q5, q4⟩ (fun w' M => ⟨wz w' (z + 168) F 0, ar, ?_, M.sF _, wF_fr _, fun _ _ => rfl⟩) R
  · simp only [f_X6_commonestTone, C.o, if_true, e1, x_br, oe, q1.o, X1_mostFrequentTone q1]
    rw [bestF_cg q2, best_both]
    rfl
  · have h1 := M.sF (upd F 0 0)
    have e2 := X7_best_L h1 (g := γ.g) R.1 15 1 xfuel 0 (by omega) (by unfold xfuel; omega)
    rw [nI_0] at e2
    simp only [f_X7_commonestTone, M.p0, ob]
    exact e2
theorem S_darkestRow (C : Cls w z γ) (R : Rel γ F ar) (H : String → Int32) : Sbs z w (f_X6_darkestRow z w) (f_X7_darkestRow (z + 168)) H F ar := by
  obtain ⟨w1, f, e1, q1, q2, q3, q4, q5⟩ := X6_flat C
  refine Rd_ret (b := nI ((List.range' 1 5).foldl (darkM (seeG γ.g)) 0)) ⟨w1, ?_, q5, q4⟩ (fun w' M => ⟨wz w' (z + 168) F 0, ar, ?_, M.sF _, wF_fr _, fun _ _ => rfl⟩) R
  · simp only [f_X6_darkestRow, C.o, if_true, e1, x_br, oe, q1.o, X1_rowWithLeastSum q1]
    have e3 : (List.range' 1 5).foldl (darkF f.T) (0, sumRow f.T 0) = (List.range' 1 5).foldl (darkF (seeG γ.g)) (0, sumRow (seeG γ.g) 0) := by
      rw [sumRow_cg q2 (by omega)]
      refine foldl_cg _ _ (fun a ha s => ?_)
      have := List.mem_range'_1.mp ha
      unfold darkF
      rw [sumRow_cg q2 (by omega)]
    rw [e3, dark_eq]
    rfl
  · have h1 := M.sF (upd F 0 0)
    have e2 := X7_dark_L h1 (g := γ.g) R.1 5 1 xfuel 0 (by omega) (by unfold xfuel; omega) (by omega)
    rw [nI_0] at e2
    simp only [f_X7_darkestRow, M.p0, ob]
    exact e2
theorem X7_mir_L {c : Nat} {g : WL} (h : MoAt w c F ar) (r : RelS g (ar 1)) : ∀ (d k n : Nat), k + d = 48 → d < n → f_X7_isMirrored_L7 n c (nI k) w = x_ret (if ((List.range' k d).all (mirC (seeG g))) = true then 1 else 0) w := by
  intro d
  induction d with
  | zero =>
    intro k n hk hn
    obtain ⟨n, rfl⟩ : ∃ m, n = m + 1 := ⟨n - 1, by omega⟩
    simp only [f_X7_isMirrored_L7]
    rw [if_pos (show (48 : Int32) ≤ nI k from nI_le (a := 48) (by omega) (by omega))]
    rfl
  | succ d ih =>
    intro k n hk hn
    obtain ⟨n, rfl⟩ : ∃ m, n = m + 1 := ⟨n - 1, by omega⟩
    have em : nI k - nI (k % 8) + 8 - 1 - nI (k % 8) = nI (8 * (k / 8) + (7 - k % 8)) := by
      rw [nI_sub (by omega), show nI (k - k % 8) + 8 = nI (k - k % 8 + 8) from nI_add _ 8, show nI (k - k % 8 + 8) - 1 = nI (k - k % 8 + 7) from nI_pred _, nI_sub (by omega)]
      congr 1
      omega
    have e1 := X7_look h r (show k < 48 by omega)
    have e2 := X7_look h r (show 8 * (k / 8) + (7 - k % 8) < 48 by omega)
    simp only [f_X7_isMirrored_L7, h.o, if_true, e1, x_br, nI_col k (show k < 48 by omega), em, e2]
    rw [if_neg (show ¬ (48 : Int32) ≤ nI k from nI_ge (b := 48) (by omega) (by omega)), ← nI_succ k, show List.range' k (d + 1) = k :: List.range' (k + 1) d from rfl, List.all_cons]
    by_cases hc : seeG g k = seeG g (8 * (k / 8) + (7 - k % 8))
    · rw [if_pos hc, ih _ _ (by omega) (by omega), show mirC (seeG g) k = true from beq_iff_eq.mpr hc]
      rfl
    · rw [if_neg hc, show mirC (seeG g) k = false from beq_eq_false_iff_ne.mpr hc]
      rfl
theorem S_isMirrored (C : Cls w z γ) (R : Rel γ F ar) (H : String → Int32) : Sbs z w (f_X6_isMirrored z w) (f_X7_isMirrored (z + 168)) H F ar := by
  obtain ⟨w1, f, e1, q1, q2, q3, q4, q5⟩ := X6_flat C
  refine Rd_ret (b := if ((List.range 48).all (mirC (seeG γ.g))) = true then 1 else 0) ⟨w1, ?_, q5, q4⟩ (fun w' M => ⟨wz w' (z + 168) F 0, ar, ?_, M.sF _, wF_fr _, fun _ _ => rfl⟩) R
  · have e3 : (List.range 6).all (mirR f.T) = (List.range 48).all (mirC (seeG γ.g)) := by
      rw [mir_both]
      apply Bool.eq_iff_iff.mpr
      rw [List.all_eq_true, List.all_eq_true]
      constructor
      · intro k x hx
        rw [← mirR_cg q2 (List.mem_range.mp hx)]; exact k x hx
      · intro k x hx
        rw [mirR_cg q2 (List.mem_range.mp hx)]; exact k x hx
    simp only [f_X6_isMirrored, C.o, if_true, e1, x_br, oe, q1.o, X1_mirror q1, e3]
    rw [if_pos (by split <;> decide)]
    rfl
  · have h1 := M.sF (upd F 0 0)
    have e2 := X7_mir_L h1 (g := γ.g) R.1 48 0 xfuel (by omega) (by unfold xfuel; omega)
    rw [nI_0, ← List.range_eq_range'] at e2
    simp only [f_X7_isMirrored, M.p0, ob]
    exact e2
/-- a rectangle of numbers -/
theorem rect_of {l u r lo : Int32} (c1 : isC l u = true) (c2 : isC r lo = true) (c3 : ¬ r < l) (c4 : ¬ lo < u) : ∃ a b c d : Nat, l = nI a ∧ u = nI b ∧ r = nI c ∧ lo = nI d ∧ a ≤ c ∧ c < 8 ∧ b ≤ d ∧ d < 6 := by
  obtain ⟨a, b, k1, k2, rfl, rfl⟩ := isC_of c1
  obtain ⟨c, d, k3, k4, rfl, rfl⟩ := isC_of c2
  exact ⟨a, b, c, d, rfl, rfl, rfl, rfl, Nat.le_of_not_lt (fun hc => c3 (nI_lt hc (by omega))), k3, Nat.le_of_not_lt (fun hc => c4 (nI_lt hc (by omega))), k4⟩
theorem X6_reqR (l u r lo : Int32) (w : xW) : f_X6_requireRectangle l u r lo w = if isC l u = true ∧ isC r lo = true then (if r < l ∨ lo < u then x_thr IAE w else x_ret () w) else x_thr IOB w := by
  simp only [f_X6_requireRectangle, X6_isCell, x_br]
  by_cases c1 : isC l u = true
  · rw [if_pos c1, if_neg (by decide)]
    by_cases c2 : isC r lo = true
    · rw [if_pos c2, if_neg (by decide), if_pos (show isC l u = true ∧ isC r lo = true from ⟨c1, c2⟩)]
      by_cases c3 : r < l
      · rw [if_pos c3, if_pos (show r < l ∨ lo < u from Or.inl c3)]; rfl
      · rw [if_neg c3]
        by_cases c4 : lo < u
        · rw [if_neg (fun hc => Int32.not_le.mpr c4 hc), if_pos (show r < l ∨ lo < u from Or.inr c4)]; rfl
        · rw [if_pos (Int32.not_lt.mp c4), if_neg (fun hc : r < l ∨ lo < u => hc.elim c3 c4)]
    · rw [if_neg c2, if_pos rfl, if_neg (fun hc : isC l u = true ∧ isC r lo = true => c2 hc.2)]; rfl
  · rw [if_neg c1, if_pos rfl, if_neg (fun hc : isC l u = true ∧ isC r lo = true => c1 hc.1)]; rfl
/-- the model's answer to both sums -/
theorem M_sum (R : Rel γ F ar) (l u r lo : Int32) :
    (isC l u = true ∧ isC r lo = true → (r < l ∨ lo < u → MRd (z + 168) F ar (f_X7_sumOfTones (z + 168) l u r lo) 2 0) ∧ (∀ a b c d : Nat, l = nI a → u = nI b → r = nI c → lo = nI d → a ≤ c → c < 8 → b ≤ d → d < 6 → MRd (z + 168) F ar (f_X7_sumOfTones (z + 168) l u r lo) 0 (sumQ (seeG γ.g) a (c + 1 - a) b (d + 1 - b) 0))) ∧
    (¬ (isC l u = true ∧ isC r lo = true) → MRd (z + 168) F ar (f_X7_sumOfTones (z + 168) l u r lo) 1 0) := by
  refine ⟨fun hc => ⟨fun hb w' M => ⟨wz w' (z + 168) F 2, ar, ?_, M.sF _, wF_fr _, fun _ _ => rfl⟩, fun a b c d e1 e2 e3 e4 h1 h2 h3 h4 w' M => ⟨wz w' (z + 168) F 0, ar, ?_, M.sF _, wF_fr _, fun _ _ => rfl⟩⟩, fun hc w' M => ⟨wz w' (z + 168) F 1, ar, ?_, M.sF _, wF_fr _, fun _ _ => rfl⟩⟩
  · simp only [f_X7_sumOfTones, X7_isCell, x_br]
    rw [if_pos hc.1, if_neg (by decide), if_pos hc.2, if_neg (by decide)]
    have j : f_X7_sumOfTones_J33 (z + 168) l u r lo (some (z + 168)) w' = x_ret 0 (wz w' (z + 168) F 2) := by
      unfold f_X7_sumOfTones_J33
      rw [oe, M.p0, ob, M.gz, ob, if_neg (by decide)]
    by_cases c3 : r < l
    · rw [if_pos c3]; exact j
    · rw [if_neg c3, if_neg (fun h9 => Int32.not_le.mpr (hb.resolve_left c3) h9)]; exact j
  · subst e1 e2 e3 e4
    have k1 := M.sF (upd F 0 0)
    have e5 := X7_sum k1 (g := γ.g) R.1 h1 h2 h3 h4
    simp only [f_X7_sumOfTones, X7_isCell, x_br]
    rw [if_pos hc.1, if_neg (by decide), if_pos hc.2, if_neg (by decide), if_neg (nI_nlt h1 (by omega)), if_pos (nI_le h3 (by omega)), M.p0, ob, M.gz, ob, if_pos (by decide), if_pos k1.o, e5, x_br]
  · have j : f_X7_sumOfTones_J18 (z + 168) l u r lo (some (z + 168)) w' = x_ret 0 (wz w' (z + 168) F 1) := by
      unfold f_X7_sumOfTones_J18
      rw [oe, M.p0, ob, M.gz, ob, if_neg (by decide)]
    simp only [f_X7_sumOfTones, X7_isCell, x_br]
    by_cases c1 : isC l u = true
    · rw [if_pos c1, if_neg (by decide), if_neg (fun h9 => hc ⟨c1, h9⟩), if_pos rfl]; exact j
    · rw [if_neg c1, if_pos rfl]; exact j
theorem S_sumOfTones (C : Cls w z γ) (R : Rel γ F ar) (l u r lo : Int32) : Sbs z w (f_X6_sumOfTones z l u r lo w) (f_X7_sumOfTones (z + 168) l u r lo) hI1A2 F ar := by
  obtain ⟨m1, m2⟩ := M_sum (z := z) R l u r lo
  by_cases hc : isC l u = true ∧ isC r lo = true
  · obtain ⟨m3, m4⟩ := m1 hc
    by_cases hb : r < l ∨ lo < u
    · refine Rd_thr (E := IAE) (cd := 2) (C.rd ?_) (m3 hb) R (by decide) (by decide)
      simp only [f_X6_sumOfTones, X6_reqR]
      rw [if_pos hc, if_pos hb, x_bt]
      rfl
    · obtain ⟨a, b, c, d, e1, e2, e3, e4, h1, h2, h3, h4⟩ := rect_of hc.1 hc.2 (fun h => hb (Or.inl h)) (fun h => hb (Or.inr h))
      obtain ⟨w1, f, e5, q1, q2, q3, q4, q5⟩ := X6_flat C
      refine Rd_ret ⟨w1, ?_, q5, q4⟩ (m4 a b c d e1 e2 e3 e4 h1 h2 h3 h4) R
      simp only [f_X6_sumOfTones, X6_reqR]
      rw [if_pos hc, if_neg hb, x_br, if_pos C.o, e5, x_br, oe, if_pos q1.o, e1, e2, e3, e4, X1_sumCellByCell q1 h1 h2 h3 h4, x_br, sumQ_cg q2 (by omega) (by omega)]
      rfl
  · refine Rd_thr (E := IOB) (cd := 1) (C.rd ?_) (m2 hc) R (by decide) (by decide)
    simp only [f_X6_sumOfTones, X6_reqR]
    rw [if_neg hc, x_bt]
    rfl
theorem MRd.tab {l u r lo cd b : Int32} (h : MRd (z + 168) F ar (f_X7_sumOfTones (z + 168) l u r lo) cd b) : MRd (z + 168) F ar (f_X7_sumOfTonesByTable (z + 168) l u r lo) cd b := fun w' M => by
  obtain ⟨w2, ar', e, q⟩ := h w' M
  refine ⟨w2, ar', ?_, q⟩
  simp only [f_X7_sumOfTonesByTable, M.o, if_true, e, x_br]
theorem S_sumOfTonesByTable (C : Cls w z γ) (R : Rel γ F ar) (l u r lo : Int32) : Sbs z w (f_X6_sumOfTonesByTable z l u r lo w) (f_X7_sumOfTonesByTable (z + 168) l u r lo) hI1A2 F ar := by
  obtain ⟨m1, m2⟩ := M_sum (z := z) R l u r lo
  by_cases hc : isC l u = true ∧ isC r lo = true
  · obtain ⟨m3, m4⟩ := m1 hc
    by_cases hb : r < l ∨ lo < u
    · refine Rd_thr (E := IAE) (cd := 2) (C.rd ?_) (m3 hb).tab R (by decide) (by decide)
      simp only [f_X6_sumOfTonesByTable, X6_reqR]
      rw [if_pos hc, if_pos hb, x_bt]
      rfl
    · obtain ⟨a, b, c, d, e1, e2, e3, e4, h1, h2, h3, h4⟩ := rect_of hc.1 hc.2 (fun h => hb (Or.inl h)) (fun h => hb (Or.inr h))
      obtain ⟨w1, f, e5, q1, q2, q3, q4, q5⟩ := X6_flat C
      obtain ⟨w2, f2, e6, r1, r2, r3, r4⟩ := X1_sumFromTable q1 q3 h1 h2 h3 h4
      refine Rd_ret ⟨w2, ?_, q5.tr (r4.mono (fun q hq => by unfold fwc at hq; exact ⟨by omega, by omega⟩)), q4.onF r1 r3 r4⟩ (m4 a b c d e1 e2 e3 e4 h1 h2 h3 h4).tab R
      simp only [f_X6_sumOfTonesByTable, X6_reqR]
      rw [if_pos hc, if_neg hb, x_br, if_pos C.o, e5, x_br, oe, if_pos q1.o, e1, e2, e3, e4, e6, x_br, sumQ_cg q2 (by omega) (by omega)]
      rfl
  · refine Rd_thr (E := IOB) (cd := 1) (C.rd ?_) (m2 hc).tab R (by decide) (by decide)
    simp only [f_X6_sumOfTonesByTable, X6_reqR]
    rw [if_neg hc, x_bt]
    rfl
/-- areas: the giving that both sides count by -/
theorem fw_clc {w1 w2 : xW} (h : Fr (fwc (z + 157)) w1 w2) : Fr (clc z) w1 w2 := h.mono (fun q hq => by unfold fwc at hq; exact ⟨by omega, by omega⟩)
theorem S_areaCount (C : Cls w z γ) (M0 : MoAt w (z + 168) F ar) (R : Rel γ F ar) (H : String → Int32) : Sbs z w (f_X6_areaCount z w) (f_X7_areaCount (z + 168)) H F ar := by
  obtain ⟨lab, L⟩ := Lab_ex M0 (g := γ.g) R.1
  obtain ⟨w1, f, e1, q1, q2, q3, q4, q5⟩ := X6_flat C
  obtain ⟨w2, f2, e2, r1, r2, r3⟩ := X1_countAreasByFilling L q1 q2
  refine Rd_ret (b := nI (numA lab)) ⟨w2, ?_, q5.tr (fw_clc r3), q4.onF r1 (by rw [r2.2]; exact q3) r3⟩ (fun w' M => X7_num M (g := γ.g) R.1 L) R
  simp only [f_X6_areaCount, C.o, if_true, e1, x_br, oe, q1.o, e2]
  rfl
theorem S_areaCountByJoining (C : Cls w z γ) (M0 : MoAt w (z + 168) F ar) (R : Rel γ F ar) (H : String → Int32) : Sbs z w (f_X6_areaCountByJoining z w) (f_X7_areaCountByJoining (z + 168)) H F ar := by
  obtain ⟨lab, L⟩ := Lab_ex M0 (g := γ.g) R.1
  obtain ⟨w1, f, e1, q1, q2, q3, q4, q5⟩ := X6_flat C
  obtain ⟨w2, f2, e2, r1, r2, r3⟩ := X1_countAreasByJoining L q1 q2
  refine Rd_ret (b := nI (numA lab)) ⟨w2, ?_, q5.tr (fw_clc r3), q4.onF r1 (by rw [r2.2]; exact q3) r3⟩ (fun w' M => ?_) R
  · simp only [f_X6_areaCountByJoining, C.o, if_true, e1, x_br, oe, q1.o, e2]
    rfl
  · obtain ⟨w3, ar', e3, q⟩ := X7_num M (g := γ.g) R.1 L
    refine ⟨w3, ar', ?_, q⟩
    simp only [f_X7_areaCountByJoining, M.o, if_true, e3, x_br]
theorem S_largestArea (C : Cls w z γ) (M0 : MoAt w (z + 168) F ar) (R : Rel γ F ar) (H : String → Int32) : Sbs z w (f_X6_largestArea z w) (f_X7_largestArea (z + 168)) H F ar := by
  obtain ⟨lab, L⟩ := Lab_ex M0 (g := γ.g) R.1
  obtain ⟨w1, f, e1, q1, q2, q3, q4, q5⟩ := X6_flat C
  obtain ⟨w2, f2, e2, r1, r2, r3⟩ := X1_sizeOfLargestArea L q1 q2
  refine Rd_ret (b := nI (fo 48 (mxM lab) 0)) ⟨w2, ?_, q5.tr (fw_clc r3), q4.onF r1 (by rw [r2.2]; exact q3) r3⟩ (fun w' M => X7_largest M (g := γ.g) R.1 L) R
  simp only [f_X6_largestArea, C.o, if_true, e1, x_br, oe, q1.o, e2]
  rfl
theorem S_areaSize (C : Cls w z γ) (M0 : MoAt w (z + 168) F ar) (R : Rel γ F ar) (x y : Int32) : Sbs z w (f_X6_areaSize z x y w) (f_X7_areaSize (z + 168) x y) hI1 F ar := by
  obtain ⟨lab, L⟩ := Lab_ex M0 (g := γ.g) R.1
  obtain ⟨w1, f, e1, q1, q2, q3, q4, q5⟩ := X6_flat C
  by_cases hc : isC x y = true
  · obtain ⟨k, hk, k1, k2⟩ := cellP hc
    obtain ⟨w2, f2, e2, r1, r2, r3⟩ := X1_sizeOfAreaAt L q1 q2 hk
    refine Rd_ret (b := nI (sizA lab k)) ⟨w2, ?_, q5.tr (fw_clc r3), q4.onF r1 (by rw [r2.2]; exact q3) r3⟩ (fun w' M => ?_) R
    · simp only [f_X6_areaSize, C.o, if_true, e1, x_br, X6_exC]
      rw [if_pos hc, x_br, oe, if_pos q1.o, k1, e2, x_br]
      rfl
    · have h1 := M.sF (upd F 0 0)
      obtain ⟨u, lb, e3, a1, a2⟩ := X7_labels h1 (g := γ.g) R.1
      have h2 := h1.sA 9 (by omega) (by omega) u
      have e4 := X7_labelled h2 (lab := lab) (fun x hx => a1.lab a2 L x hx) (fun x hx => L.lt hx) hk
      refine ⟨_, _, ?_, h2, (wF_fr _).tr (wA_fr (by omega) _), fun k hk => if_neg hk⟩
      simp only [f_X7_areaSize, X7_isCell, x_br]
      rw [if_pos hc, if_neg (by decide)]
      unfold f_X7_areaSize_J14
      rw [oe, M.p0, ob, M.gz, ob, if_pos (by decide), if_pos h1.o, e3, x_br, if_pos h2.o, k2, e4, x_br]
  · refine Rd_thr (E := IOB) (cd := 1) (b := 0) ⟨w1, ?_, q5, q4⟩ (fun w' M => ⟨wz w' (z + 168) F 1, ar, ?_, M.sF _, wF_fr _, fun _ _ => rfl⟩) R (by decide) (by decide)
    · simp only [f_X6_areaSize, C.o, if_true, e1, x_br, X6_exC]
      rw [if_neg hc, x_bt]
      rfl
    · simp only [f_X7_areaSize, X7_isCell, x_br]
      rw [if_neg hc, if_pos rfl]
      unfold f_X7_areaSize_J14
      rw [oe, M.p0, ob, M.gz, ob, if_neg (by decide)]
theorem S_isConsistent (C : Cls w z γ) (M0 : MoAt w (z + 168) F ar) (R : Rel γ F ar) (H : String → Int32) : Sbs z w (f_X6_isConsistent z w) (f_X7_isConsistent (z + 168)) H F ar := by
  obtain ⟨lab, L⟩ := Lab_ex M0 (g := γ.g) R.1
  obtain ⟨w1, f, e1, q1, q2, q3, q4, q5⟩ := X6_flat C
  obtain ⟨w2, f2, e2, r1, r2, r3, r4⟩ := X1_sumFromTable q1 q3 (l := 0) (up := 0) (r := 7) (lo := 5) (by omega) (by omega) (by omega) (by omega)
  have e2' : f_X1_sumFromTable (z + 157) 0 0 7 5 w1 = x_ret (sumQ f.T 0 8 0 6 0) w2 := e2
  obtain ⟨w3, f3, e3, s1, s2, s3⟩ := X1_countAreasByFilling L r1 (fun x hx => by rw [r2]; exact q2 x hx)
  obtain ⟨w4, f4, e4, t1, t2, t3⟩ := X1_countAreasByJoining L s1 (fun x hx => by rw [s2.1, r2]; exact q2 x hx)
  have e5 : f_X1_countCellsUnlikeFromTop (z + 157) (some (z + 1)) w1 = x_ret 0 w1 := by
    rw [X1_countCellsUnlikeFromTop q1 q4.L]
    have : cnt 48 (fun c => f.T c != seeG γ.g c) = 0 := by
      rw [cnt_congr (q := fun _ => false) (fun k hk => by rw [q2 k hk]; simp)]
      decide
    rw [this]
    rfl
  refine Rd_ret (b := 1) ⟨w4, ?_, ((q5.tr (fw_clc r4)).tr (fw_clc s3)).tr (fw_clc t3), ((q4.onF r1 r3 r4).onF s1 (by rw [s2.2]; exact r3) s3).onF t1 (by rw [t2.2, s2.2]; exact r3) t3⟩ (fun w' M => ⟨wz w' (z + 168) F 0, ar, ?_, M.sF _, wF_fr _, fun _ _ => rfl⟩) R
  · simp only [f_X6_isConsistent, C.o, if_true, e1, x_br, q4.r0, ob, oe, q1.o, e5, X1_sumOfAllCells q1, e2', r1.o, e3, s1.o, e4]
    rfl
  · simp only [f_X7_isConsistent, M.p0, ob]
end RF
