/-! ===== calls that only read: two layers, ranks, the output ===== -/
section RG
variable {w : xW} {z : Nat} {γ : CG} {F : Nat → Int32} {ar : Nat → Nat → Int32}
theorem X7_dif_L {c : Nat} {g : WL} (h : MoAt w c F ar) (r : RelS g (ar 1)) (h0 : F 0 = 0) {i j : Nat} (hi : i < g.n) (hj : j < g.n) : ∀ (d k n acc : Nat), k + d = 48 → d < n → f_X7_differentCells_L30 n c (nI i) (nI j) (nI acc) (nI k) w = x_ret (nI (acc + (List.range' k d).countP fun q => g.t i q != g.t j q)) w := by
  have h6 := r.2.2.2.1
  intro d
  induction d with
  | zero =>
    intro k n acc hk hn
    obtain ⟨n, rfl⟩ : ∃ m, n = m + 1 := ⟨n - 1, by omega⟩
    simp only [f_X7_differentCells_L30]
    rw [if_pos (show (48 : Int32) ≤ nI k from nI_le (a := 48) (by omega) (by omega))]
    rfl
  | succ d ih =>
    intro k n acc hk hn
    obtain ⟨n, rfl⟩ : ∃ m, n = m + 1 := ⟨n - 1, by omega⟩
    have e1 := (r.2.2.2.2 i hi).2.2.2 k (by omega)
    have e2 := (r.2.2.2.2 j hj).2.2.2 k (by omega)
    have eq1 : (g.t i k + 1 = g.t j k + 1) = (g.t i k = g.t j k) := propext ⟨fun h9 => by
      have := congrArg (fun x => x - 1) h9
      simpa [Int32.add_sub_cancel] using this, fun h9 => by rw [h9]⟩
    simp only [f_X7_differentCells_L30, h.g0, ob, h0, h.o, if_true, X7_at h (show i < 6 by omega) (show k < 48 by omega), X7_at h (show j < 6 by omega) (show k < 48 by omega), x_br, e1.1, e2.1, eq1, Int32.add_zero]
    rw [if_neg (show ¬ (48 : Int32) ≤ nI k from nI_ge (b := 48) (by omega) (by omega)), ← nI_succ k, List.range'_succ]
    by_cases hc : g.t i k = g.t j k
    · rw [if_pos hc, ih _ _ _ (by omega) (by omega), List.countP_cons_of_neg (by simp [hc])]
    · rw [if_neg hc, ← nI_succ, ih _ _ _ (by omega) (by omega), List.countP_cons_of_pos (by simpa using hc)]
      congr 2
      omega
theorem X7_dif_no {c : Nat} (h : MoAt w c F ar) (h0 : F 0 = 1) (x y : Int32) (n : Nat) : f_X7_differentCells_L30 (n + 1) c x y 0 0 w = x_ret 0 w := by
  simp only [f_X7_differentCells_L30, h.g0, ob, h0]
  rw [if_neg (by decide), if_neg (by decide)]
theorem S_differentCells (C : Cls w z γ) (R : Rel γ F ar) (p q : Int32) : Sbs z w (f_X6_differentCells z p q w) (f_X7_differentCells (z + 168) p q) hI1 F ar := by
  have h6 := C.L.n6
  rcases X6_exL C p with ⟨i, hi, rfl, e⟩ | ⟨hq, e⟩
  · have hl := C.L.ly (i := i) (by omega)
    rcases X6_exL C q with ⟨j, hj, rfl, e'⟩ | ⟨hq', e'⟩
    · have hl' := C.L.ly (i := j) (by omega)
      refine Rd_ret (b := nI (cnt 48 fun q => γ.g.t i q != γ.g.t j q)) (C.rd ?_) (fun w' M => ⟨wz w' (z + 168) F 0, ar, ?_, M.sF _, wF_fr _, fun _ _ => rfl⟩) R
      · simp only [f_X6_differentCells, C.o, if_true, e, e', x_br, oe, hl.o, X3_countCellsUnlike hl hl']
        rfl
      · have h1 := M.sF (upd F 0 0)
        have e2 := X7_dif_L h1 (g := γ.g) R.1 (by unfold upd; rw [if_pos rfl]) hi hj 48 0 xfuel 0 (by omega) (by unfold xfuel; omega)
        rw [Nat.zero_add, cntR, nI_0] at e2
        simp only [f_X7_differentCells, M.o, if_true, X7_isLayer M R.1.1 h6, x_br, isLayer_if]
        rw [if_neg (neg_pos hi h6), if_neg (by decide), if_neg (neg_pos hj h6), if_neg (by decide), M.p0, ob]
        exact e2
    · refine Rd_thr (E := IOB) (cd := 1) (b := 0) (C.rd ?_) (fun w' M => ⟨wz w' (z + 168) F 1, ar, ?_, M.sF _, wF_fr _, fun _ _ => rfl⟩) R (by decide) (by decide)
      · simp only [f_X6_differentCells, C.o, if_true, e, e', x_br, x_bt]
        rfl
      · have h1 := M.sF (upd F 0 1)
        simp only [f_X7_differentCells, M.o, if_true, X7_isLayer M R.1.1 h6, x_br, isLayer_if]
        rw [if_neg (neg_pos hi h6), if_neg (by decide), if_pos hq', if_pos rfl, M.p0, ob]
        exact X7_dif_no h1 (by unfold upd; rw [if_pos rfl]) _ _ 4999
  · refine Rd_thr (E := IOB) (cd := 1) (b := 0) (C.rd ?_) (fun w' M => ⟨wz w' (z + 168) F 1, ar, ?_, M.sF _, wF_fr _, fun _ _ => rfl⟩) R (by decide) (by decide)
    · simp only [f_X6_differentCells, C.o, if_true, e, x_bt]
      rfl
    · have h1 := M.sF (upd F 0 1)
      simp only [f_X7_differentCells, M.o, if_true, X7_isLayer M R.1.1 h6, x_br, isLayer_if]
      rw [if_pos hq, if_pos rfl, M.p0, ob]
      exact X7_dif_no h1 (by unfold upd; rw [if_pos rfl]) _ _ 4999
/-- the model's search for a rank: one layer -/
theorem X7_rk_in {c : Nat} {g : WL} (h : MoAt w c F ar) (r : RelS g (ar 1)) {i : Nat} (hi : i < g.n) (x1 : Int32) (K : Nat → Int32 → Int32 → xW → xO Int32) : ∀ (d k n acc : Nat), k + d = g.n → d < n →
    f_X7_layerByPaint_L22 K n c x1 (nI i) (nI acc) (nI k) w = if nI (acc + (List.range' k d).countP (ahdG g i)) = x1 then x_ret (nI i) w else K c x1 (nI (i + 1)) w := by
  have h6 := r.2.2.2.1
  intro d
  induction d with
  | zero =>
    intro k n acc hk hn
    obtain ⟨n, rfl⟩ : ∃ m, n = m + 1 := ⟨n - 1, by omega⟩
    simp only [f_X7_layerByPaint_L22, h.r1, ob, oe, X7_n h, r.1]
    rw [if_pos (nI_le (by omega) (by omega)), nI_succ]
    rfl
  | succ d ih =>
    intro k n acc hk hn
    obtain ⟨n, rfl⟩ : ∃ m, n = m + 1 := ⟨n - 1, by omega⟩
    have q1 := tonG_le g i
    have q2 := tonG_le g k
    have e1 := X7_full h r (show k < g.n by omega)
    have e2 := X7_full h r hi
    simp only [f_X7_layerByPaint_L22, h.r1, ob, oe, X7_n h, r.1, h.o, if_true, e1, e2, x_br, Int32.add_zero]
    rw [if_neg (nI_ge (by omega) (by omega)), ← nI_succ k, ← nI_succ acc, List.range'_succ]
    simp only [nI_clt (show tonG g i < 2 ^ 31 by omega) (show tonG g k < 2 ^ 31 by omega), nI_ceq (show tonG g k < 2 ^ 31 by omega) (show tonG g i < 2 ^ 31 by omega), nI_cle (show i < 2 ^ 31 by omega) (show k < 2 ^ 31 by omega)]
    by_cases hc : tonG g i < tonG g k
    · rw [if_pos hc, ih _ _ _ (by omega) (by omega), List.countP_cons_of_pos (by simp [ahdG, hc]), show acc + 1 + (List.range' (k + 1) d).countP (ahdG g i) = acc + ((List.range' (k + 1) d).countP (ahdG g i) + 1) by omega]
    · rw [if_neg hc]
      by_cases hd : tonG g k = tonG g i
      · rw [if_pos hd]
        by_cases he : i ≤ k
        · rw [if_pos he, ih _ _ _ (by omega) (by omega), List.countP_cons_of_neg (by simp [ahdG]; omega)]
        · rw [if_neg he, ih _ _ _ (by omega) (by omega), List.countP_cons_of_pos (by simp [ahdG]; omega), show acc + 1 + (List.range' (k + 1) d).countP (ahdG g i) = acc + ((List.range' (k + 1) d).countP (ahdG g i) + 1) by omega]
      · rw [if_neg hd, ih _ _ _ (by omega) (by omega), List.countP_cons_of_neg (by simp [ahdG]; omega)]
theorem X7_rk_out {c : Nat} {g : WL} (h : MoAt w c F ar) (r : RelS g (ar 1)) (x1 : Int32) : ∀ (d k n : Nat), k + d = g.n → d < n →
    f_X7_layerByPaint_L7 n c x1 (nI k) w = match firG (fun i => decide (nI (cnt g.n (ahdG g i)) = x1)) k d with
      | some i => x_ret (nI i) w
      | none => x_bind (f_X7_fails c 1 w) fun r7 w6 => x_ret r7 w6 := by
  have h6 := r.2.2.2.1
  intro d
  induction d with
  | zero =>
    intro k n hk hn
    obtain ⟨n, rfl⟩ : ∃ m, n = m + 1 := ⟨n - 1, by omega⟩
    simp only [f_X7_layerByPaint_L7, h.r1, ob, oe, X7_n h, r.1]
    rw [if_pos (nI_le (by omega) (by omega)), if_pos h.o]
    rfl
  | succ d ih =>
    intro k n hk hn
    obtain ⟨n, rfl⟩ : ∃ m, n = m + 1 := ⟨n - 1, by omega⟩
    have e1 := X7_rk_in h r (show k < g.n by omega) x1 (fun a0 x1 x2 w => f_X7_layerByPaint_L7 n a0 x1 x2 w) g.n 0 xfuel 0 (by omega) (by unfold xfuel; omega)
    rw [Nat.zero_add, cntR, nI_0] at e1
    simp only [f_X7_layerByPaint_L7, h.r1, ob, oe, X7_n h, r.1]
    rw [if_neg (nI_ge (by omega) (by omega)), e1]
    by_cases hc : nI (cnt g.n (ahdG g k)) = x1
    · rw [if_pos hc]
      simp [firG, hc]
    · rw [if_neg hc]
      refine (ih (k + 1) n (by omega) (by omega)).trans ?_
      simp [firG, hc]
theorem firG_lt {p : Nat → Bool} : ∀ (d k i : Nat), firG p k d = some i → i < k + d
  | 0, k, i, h => by cases h
  | d + 1, k, i, h => by
    unfold firG at h
    by_cases hp : p k = true
    · rw [if_pos hp] at h
      cases h
      omega
    · rw [if_neg hp] at h
      have := firG_lt d (k + 1) i h
      omega
theorem S_layerByPaint (C : Cls w z γ) (R : Rel γ F ar) (x : Int32) : Sbs z w (f_X6_layerByPaint z x w) (f_X7_layerByPaint (z + 168) x) hN1 F ar := by
  have h6 := C.L.n6
  have c1 : f_X6_layerByPaint z x w = if (firG (fun i => decide (nI (cnt γ.g.n (ahdG γ.g i)) = x)) 0 γ.g.n).elim (-1) nI = -1 then x_thr NSE w else x_ret ((firG (fun i => decide (nI (cnt γ.g.n (ahdG γ.g i)) = x)) 0 γ.g.n).elim (-1) nI) w := by
    simp only [f_X6_layerByPaint, C.r0, ob, oe, C.L.o, if_true, X4_positionOfRank C.L, x_br]
    rfl
  have m1 : ∀ w', MoAt w' (z + 168) F ar → f_X7_layerByPaint (z + 168) x w' = match firG (fun i => decide (nI (cnt γ.g.n (ahdG γ.g i)) = x)) 0 γ.g.n with
      | some i => x_ret (nI i) (wz w' (z + 168) F 0)
      | none => x_ret 0 (wz w' (z + 168) F 1) := fun w' M => by
    have h1 := M.sF (upd F 0 0)
    have e2 := X7_rk_out h1 (g := γ.g) R.1 x γ.g.n 0 xfuel (by omega) (by unfold xfuel; omega)
    rw [nI_0] at e2
    simp only [f_X7_layerByPaint, M.p0, ob]
    refine e2.trans ?_
    cases firG (fun i => decide (nI (cnt γ.g.n (ahdG γ.g i)) = x)) 0 γ.g.n with
    | some i => rfl
    | none =>
      show x_bind (f_X7_fails (z + 168) 1 (wz w' (z + 168) F 0)) _ = _
      rw [fails_z M, x_br]
  cases hf : firG (fun i => decide (nI (cnt γ.g.n (ahdG γ.g i)) = x)) 0 γ.g.n with
  | none =>
    rw [hf] at c1
    refine Rd_thr (E := NSE) (cd := 1) (b := 0) (C.rd ?_) (fun w' M => ⟨wz w' (z + 168) F 1, ar, ?_, M.sF _, wF_fr _, fun _ _ => rfl⟩) R (by decide) (by decide)
    · rw [c1]
      exact if_pos rfl
    · rw [m1 w' M, hf]
  | some i =>
    have hi := firG_lt _ _ _ hf
    rw [hf] at c1
    refine Rd_ret (b := nI i) (C.rd ?_) (fun w' M => ⟨wz w' (z + 168) F 0, ar, ?_, M.sF _, wF_fr _, fun _ _ => rfl⟩) R
    · rw [c1]
      exact if_neg (show ¬ nI i = -1 from nI_nneg (by omega) (by decide))
    · rw [m1 w' M, hf]
theorem S_outputChar (C : Cls w z γ) (R : Rel γ F ar) (x : Int32) : Sbs z w (f_X6_outputChar z x w) (f_X7_outputChar (z + 168) x) hI1 F ar := by
  obtain ⟨-, -, -, -, -, -, r14, rot, -, -⟩ := id R
  have hon := C.O.2.2
  have e1 : ∀ w', MoAt w' (z + 168) F ar → x_geti w' (z + 168) 7 14 = some (nI γ.on) := fun w' M => by rw [M.g14, r14]
  by_cases hx : x < 0 ∨ nI γ.on ≤ x
  · refine Rd_thr (E := IOB) (cd := 1) (b := 0) (C.rd ?_) (fun w' M => ⟨wz w' (z + 168) F 1, ar, ?_, M.sF _, wF_fr _, fun _ _ => rfl⟩) R (by decide) (by decide)
    · simp only [f_X6_outputChar, C.r6, ob, oe, C.O.g1]
      by_cases h0 : x < 0
      · rw [if_pos h0]; rfl
      · rw [if_neg h0, if_neg (fun h9 => Int32.not_le.mpr h9 (hx.resolve_left h0))]; rfl
    · simp only [f_X7_outputChar, e1 w' M, ob, X7_in, x_br]
      have hz : (if ¬ x < 0 ∧ ¬ nI γ.on - 1 < x then (1 : Int32) else 0) = 0 := by
        rw [if_neg]
        rintro ⟨h1, h2⟩
        have h3 := hx.resolve_left h1
        by_cases hn : γ.on = 0
        · rw [hn] at h2
          have h4 := Int32.le_iff_toInt_le.mp (Int32.not_lt.mp h1)
          have h5 : (nI 0 - 1).toInt = -1 := by decide
          have h6 : (0 : Int32).toInt = 0 := by decide
          rw [Int32.lt_iff_toInt_lt] at h2
          omega
        · obtain ⟨m, hm⟩ : ∃ m, γ.on = m + 1 := ⟨γ.on - 1, by omega⟩
          rw [hm, nI_pred] at h2
          rw [hm, le_lt (by omega)] at h3
          exact h2 h3
      rw [hz, if_pos rfl, M.p0, ob, M.gz, ob, if_neg (by decide)]
  · have h0 : ¬ x < 0 := fun h => hx (Or.inl h)
    obtain ⟨i, hi, rfl⟩ := nI_of h0
    have hlt : i < γ.on := Nat.lt_of_not_le (fun hc => hx (Or.inr (nI_le hc hi)))
    obtain ⟨o1, o2⟩ := rot i hlt
    refine Rd_ret (b := γ.ot i) (C.rd ?_) (fun w' M => ⟨wz w' (z + 168) F 0, ar, ?_, M.sF _, wF_fr _, fun _ _ => rfl⟩) R
    · simp only [f_X6_outputChar, C.r6, ob, oe, C.O.g1, C.O.o, if_true, X5_charAt C.O (show i < 32 by omega) o2, x_br]
      rw [if_neg h0, if_pos (nI_lt hlt (by omega)), if_pos o2]
      rfl
    · have h1 := M.sF (upd F 0 0)
      have e2 : x_ild (wz w' (z + 168) F 0) (z + 168 + 7) 0 (nI i) = some (ar 7 i) := h1.ld 7 (by omega) (by omega) (i := i) (by show i < 40; omega)
      obtain ⟨m, hm⟩ : ∃ m, γ.on = m + 1 := ⟨γ.on - 1, by omega⟩
      simp only [f_X7_outputChar, e1 w' M, ob, X7_in, x_br]
      rw [hm, nI_pred, if_pos (show ¬ nI i < 0 ∧ ¬ nI m < nI i from ⟨h0, nI_nlt (by omega) (by omega)⟩), if_neg (by decide), M.p0, ob, M.gz, ob, if_pos (by decide), h1.r9, ob, oe, e2, ob, if_pos (show x_nar 1 (x_c (ar 7 i)) = x_c (ar 7 i) from x_cc _), o1]
end RG
