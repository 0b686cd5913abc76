/-! ===== calls that only read: cells, the flat wall ===== -/
theorem X1_flattenB {w : xW} {a b : Nat} {f : FW} {g : WL} (h : FwAt w a f) (hb : LsAt w b g) (hap : b + 14 ≤ a ∨ a + 6 ≤ b) :
    ∃ w' f', f_X1_flatten a (some b) w = x_ret () w' ∧ FwAt w' a f' ∧ (∀ c, c < 48 → f'.T c = seeG g c) ∧ f'.tb = f.tb ∧ Fr (fwc a) w w' := by
  have h1 := X1_flatten_L h hb hap 48 0 xfuel f.T (by omega) (by unfold xfuel; omega)
  rw [show wT w a f.T = w from xset_self h.2.1, fo_R, fo_upd (fun _ => true) (seeG g) f.T 48] at h1
  refine ⟨_, _, h1, h.sT _, fun c hc => ?_, rfl, Fr.set ⟨by omega, by omega⟩⟩
  show (if c < 48 ∧ true = true then seeG g c else f.T c) = _
  rw [if_pos ⟨hc, rfl⟩]
section CG
variable {T T' : Nat → Int32}
theorem foldl_cg {σ : Type} {f g : σ → Nat → σ} : ∀ (l : List Nat) (s : σ), (∀ a, a ∈ l → ∀ s, f s a = g s a) → l.foldl f s = l.foldl g s
  | [], _, _ => rfl
  | a :: l, s, h => by
    rw [List.foldl_cons, List.foldl_cons, h a (List.mem_cons_self ..)]
    exact foldl_cg l _ (fun b hb => h b (List.mem_cons_of_mem _ hb))
theorem sumR_cg (h : ∀ c, c < 48 → T c = T' c) {l n y : Nat} (hl : l + n ≤ 8) (hy : y < 6) (s : Int32) : sumR T l n y s = sumR T' l n y s := by
  unfold sumR
  refine foldl_cg _ _ (fun a ha s => ?_)
  have := List.mem_range'_1.mp ha
  rw [h _ (by omega)]
theorem sumQ_cg (h : ∀ c, c < 48 → T c = T' c) {l n up m : Nat} (hl : l + n ≤ 8) (hu : up + m ≤ 6) (s : Int32) : sumQ T l n up m s = sumQ T' l n up m s := by
  unfold sumQ
  refine foldl_cg _ _ (fun a ha s => ?_)
  have := List.mem_range'_1.mp ha
  exact sumR_cg h hl (by omega) s
theorem cntT_cg (h : ∀ c, c < 48 → T c = T' c) : cntT T = cntT T' := by
  funext x
  exact cnt_congr (fun k hk => by rw [h k hk])
theorem bestF_cg (h : ∀ c, c < 48 → T c = T' c) : bestF T = bestF T' := by
  funext p x
  unfold bestF
  rw [cntT_cg h]
theorem sumRow_cg (h : ∀ c, c < 48 → T c = T' c) {y : Nat} (hy : y < 6) : sumRow T y = sumRow T' y := sumQ_cg h (by omega) (by omega) 0
theorem mirR_cg (h : ∀ c, c < 48 → T c = T' c) {y : Nat} (hy : y < 6) : mirR T y = mirR T' y := by
  unfold mirR
  apply Bool.eq_iff_iff.mpr
  rw [List.all_eq_true, List.all_eq_true]
  constructor
  · intro k x hx
    have := List.mem_range.mp hx
    rw [← h _ (by omega), ← h _ (by omega)]
    exact k x hx
  · intro k x hx
    have := List.mem_range.mp hx
    rw [h _ (by omega), h _ (by omega)]
    exact k x hx
/-- a cell and its mirror image -/
def mirC (T : Nat → Int32) (k : Nat) : Bool := T k == T (8 * (k / 8) + (7 - k % 8))
theorem mir_both (T : Nat → Int32) : (List.range 48).all (mirC T) = (List.range 6).all (mirR T) := by
  apply Bool.eq_iff_iff.mpr
  rw [List.all_eq_true, List.all_eq_true]
  constructor
  · intro h y hy
    have hy' := List.mem_range.mp hy
    unfold mirR
    rw [List.all_eq_true]
    intro x hx
    have hx' := List.mem_range.mp hx
    have h1 := h (8 * y + x) (List.mem_range.mpr (by omega))
    unfold mirC at h1
    rw [show (8 * y + x) / 8 = y by omega, show (8 * y + x) % 8 = x by omega] at h1
    exact h1
  · intro h k hk
    have hk' := List.mem_range.mp hk
    have h1 := h (k / 8) (List.mem_range.mpr (by omega))
    unfold mirR at h1
    rw [List.all_eq_true] at h1
    unfold mirC
    by_cases hc : k % 8 < 4
    · have h2 := h1 (k % 8) (List.mem_range.mpr hc)
      rw [show 8 * (k / 8) + k % 8 = k by omega] at h2
      exact h2
    · have h2 := h1 (7 - k % 8) (List.mem_range.mpr (by omega))
      rw [show 7 - (7 - k % 8) = k % 8 by omega, show 8 * (k / 8) + k % 8 = k by omega] at h2
      exact beq_iff_eq.mpr (beq_iff_eq.mp h2).symm
end CG
section RE
variable {w : xW} {z : Nat} {γ : CG} {F : Nat → Int32} {ar : Nat → Nat → Int32}
theorem X6_flat (C : Cls w z γ) : ∃ w' f, f_X6_flattened z w = x_ret (some (z + 157)) w' ∧ FwAt w' (z + 157) f ∧ (∀ c, c < 48 → f.T c = seeG γ.g c) ∧ Brd f.tb ∧ Cls w' z γ ∧ Fr (clc z) w w' := by
  obtain ⟨f0, hf, hb⟩ := C.2.2.2.2.1
  obtain ⟨w', f', e, q1, q2, q3, q4⟩ := X1_flattenB hf C.L (Or.inl (by omega))
  have hb' : Brd f'.tb := by rw [q3]; exact hb
  have C' := C.onF q1 hb' q4
  refine ⟨w', f', ?_, q1, q2, hb', C', q4.mono (fun q hq => by unfold fwc at hq; exact ⟨by omega, by omega⟩)⟩
  simp only [f_X6_flattened, C.r4, C.r0, ob, oe, hf.o, if_true, e, x_br, C'.r4]
theorem cellP {x y : Int32} (h : isC x y = true) : ∃ k, k < 48 ∧ y * 8 + x = nI k ∧ 8 * y + x = nI k := by
  obtain ⟨k, hk, e⟩ := isC_cell h
  exact ⟨k, hk, e, by rw [Int32.mul_comm]; exact e⟩
theorem S_seen (C : Cls w z γ) (R : Rel γ F ar) (x y : Int32) : Sbs z w (f_X6_seen z x y w) (f_X7_seen (z + 168) x y) hI1 F ar := by
  by_cases hc : isC x y = true
  · obtain ⟨k, hk, e1, e2⟩ := cellP hc
    refine Rd_ret (b := seeG γ.g k) (C.rd ?_) (fun w' M => ⟨wz w' (z + 168) F 0, ar, ?_, M.sF _, wF_fr _, fun _ _ => rfl⟩) R
    · simp only [f_X6_seen, C.r0, ob, X6_exC]
      rw [if_pos hc, x_br, oe, if_pos C.L.o, e1, X4_see C.L hk, x_br]
      rfl
    · have h1 := M.sF (upd F 0 0)
      have e3 := X7_look h1 (g := γ.g) R.1 hk
      simp only [f_X7_seen, X7_isCell, x_br]
      rw [if_pos hc, if_neg (by decide), M.p0, ob, M.gz, ob, if_pos (by decide), if_pos h1.o, e2, e3, x_br]
  · refine Rd_thr (E := IOB) (cd := 1) (b := 0) (C.rd ?_) (fun w' M => ⟨wz w' (z + 168) F 1, ar, ?_, M.sF _, wF_fr _, fun _ _ => rfl⟩) R (by decide) (by decide)
    · simp only [f_X6_seen, C.r0, ob, X6_exC]
      rw [if_neg hc, x_bt]
      rfl
    · simp only [f_X7_seen, X7_isCell, x_br]
      rw [if_neg hc, if_pos rfl, M.p0, ob, M.gz, ob, if_neg (by decide)]
theorem S_seenFromTop (C : Cls w z γ) (R : Rel γ F ar) (x y : Int32) : Sbs z w (f_X6_seenFromTop z x y w) (f_X7_seenFromTop (z + 168) x y) hI1 F ar := by
  by_cases hc : isC x y = true
  · obtain ⟨k, hk, e1, e2⟩ := cellP hc
    refine Rd_ret (b := seeG γ.g k) (C.rd ?_) (fun w' M => ⟨wz w' (z + 168) F 0, ar, ?_, M.sF _, wF_fr _, fun _ _ => rfl⟩) R
    · simp only [f_X6_seenFromTop, C.r0, ob, X6_exC]
      rw [if_pos hc, x_br, oe, if_pos C.L.o, e1, X4_toneFromTop C.L hk, x_br]
      rfl
    · have h1 := M.sF (upd F 0 0)
      have e3 := X7_look h1 (g := γ.g) R.1 hk
      simp only [f_X7_seenFromTop, f_X7_seen, X7_isCell, x_br]
      rw [if_pos M.o, if_pos hc, if_neg (by decide), M.p0, ob, M.gz, ob, if_pos (by decide), if_pos h1.o, e2, e3, x_br, x_br]
  · refine Rd_thr (E := IOB) (cd := 1) (b := 0) (C.rd ?_) (fun w' M => ⟨wz w' (z + 168) F 1, ar, ?_, M.sF _, wF_fr _, fun _ _ => rfl⟩) R (by decide) (by decide)
    · simp only [f_X6_seenFromTop, C.r0, ob, X6_exC]
      rw [if_neg hc, x_bt]
      rfl
    · simp only [f_X7_seenFromTop, f_X7_seen, X7_isCell, x_br]
      rw [if_pos M.o, if_neg hc, if_pos rfl, M.p0, ob, M.gz, ob, if_neg (by decide), x_br]
theorem S_topLayer (C : Cls w z γ) (R : Rel γ F ar) (x y : Int32) : Sbs z w (f_X6_topLayer z x y w) (f_X7_topLayer (z + 168) x y) hI1N2 F ar := by
  have h6 := C.L.n6
  by_cases hc : isC x y = true
  · obtain ⟨k, hk, e1, e2⟩ := cellP hc
    generalize hv : (topG (covG γ.g k) γ.g.n).elim (-1) nI = v
    have c1 : f_X6_topLayer z x y w = if v = -1 then x_thr NSE w else x_ret v w := by
      simp only [f_X6_topLayer, C.r0, ob, X6_exC]
      rw [if_pos hc, x_br, oe, if_pos C.L.o, e1, X4_uppermostCovering C.L hk, hv, x_br]
      rfl
    have tp : ∀ {w' : xW} {F' : Nat → Int32}, MoAt w' (z + 168) F' ar → f_X7_top (z + 168) (nI k) w' = x_ret v w' := fun M' => by
      rw [← hv]
      exact X7_top M' (g := γ.g) R.1 hk
    by_cases hm : v = -1
    · refine Rd_thr (E := NSE) (cd := 2) (b := 0) (C.rd ?_) (fun w' M => ⟨wz w' (z + 168) F 2, ar, ?_, M.sF _, wF_fr _, fun _ _ => rfl⟩) R (by decide) (by decide)
      · rw [c1, if_pos hm]; rfl
      · simp only [f_X7_topLayer, X7_isCell, x_br]
        rw [if_pos hc, if_neg (by decide), if_pos M.o, e2, tp M, x_br, if_pos hm, M.p0, ob, M.gz, ob, if_neg (by decide)]
    · refine Rd_ret (b := v) (C.rd ?_) (fun w' M => ⟨wz w' (z + 168) F 0, ar, ?_, M.sF _, wF_fr _, fun _ _ => rfl⟩) R
      · rw [c1, if_neg hm]; rfl
      · have h1 := M.sF (upd F 0 0)
        simp only [f_X7_topLayer, X7_isCell, x_br]
        rw [if_pos hc, if_neg (by decide), if_pos M.o, e2, tp M, x_br, if_neg hm, M.p0, ob, M.gz, ob, if_pos (by decide), if_pos h1.o, tp h1, x_br]
  · refine Rd_thr (E := IOB) (cd := 1) (b := 0) (C.rd ?_) (fun w' M => ⟨wz w' (z + 168) F 1, ar, ?_, M.sF _, wF_fr _, fun _ _ => rfl⟩) R (by decide) (by decide)
    · simp only [f_X6_topLayer, C.r0, ob, X6_exC]
      rw [if_neg hc, x_bt]
      rfl
    · simp only [f_X7_topLayer, X7_isCell, x_br]
      rw [if_neg hc, if_pos rfl, M.p0, ob, M.gz, ob, if_neg (by decide)]
theorem X7_cov_L {c : Nat} {g : WL} (h : MoAt w c F ar) (r : RelS g (ar 1)) (h0 : F 0 = 0) {x y : Int32} {q : Nat} (hq : q < 48) (he : 8 * y + x = nI q) : ∀ (d k n acc : Nat), k + d = g.n → d < n → f_X7_coveringLayers_L22 n c x y (nI acc) (nI k) w = x_ret (nI (acc + (List.range' k d).countP (covG g q))) w := by
  have h6 := r.2.2.2.1
  intro d
  induction d with
  | zero =>
    intro k n acc hk hn
    obtain ⟨n, rfl⟩ : ∃ m, n = m + 1 := ⟨n - 1, by omega⟩
    simp only [f_X7_coveringLayers_L22, h.r1, ob, oe, X7_n h, r.1]
    rw [if_pos (nI_le (by omega) (by omega))]
    rfl
  | succ d ih =>
    intro k n acc hk hn
    obtain ⟨n, rfl⟩ : ∃ m, n = m + 1 := ⟨n - 1, by omega⟩
    obtain ⟨em, ev, hv, et⟩ := r.2.2.2.2 k (by omega)
    obtain ⟨e1, e2⟩ := et q hq
    simp only [f_X7_coveringLayers_L22, h.r1, ob, oe, X7_n h, r.1, h.g0, h0, h.o, if_true, X7_shown h (show k < 6 by omega), x_br, shown_if r (show k < g.n by omega), he, X7_at h (show k < 6 by omega) hq, e1, okT_le e2, Int32.add_zero]
    rw [if_neg (nI_ge (by omega) (by omega)), ← nI_succ k, List.range'_succ]
    by_cases c1 : g.v k = 0
    · rw [if_pos c1, if_pos rfl, ih _ _ _ (by omega) (by omega), List.countP_cons_of_neg (by simp [covG, c1])]
    · rw [if_neg c1, if_neg (by decide)]
      by_cases c2 : g.t k q = -1
      · rw [if_pos c2, ih _ _ _ (by omega) (by omega), List.countP_cons_of_neg (by simp [covG, c2])]
      · rw [if_neg c2, ← nI_succ, ih _ _ _ (by omega) (by omega), List.countP_cons_of_pos (by simp [covG, c1, c2])]
        congr 2
        omega
theorem X7_cov_no {c : Nat} (h : MoAt w c F ar) (h0 : F 0 = 1) (hn : ∃ v, ar 1 0 = v) (x y : Int32) (n : Nat) : f_X7_coveringLayers_L22 (n + 1) c x y 0 0 w = x_ret 0 w := by
  simp only [f_X7_coveringLayers_L22, h.r1, ob, oe, X7_n h, h.g0, h0]
  split
  · rfl
  · rw [if_neg (by decide)]
theorem S_coveringLayers (C : Cls w z γ) (R : Rel γ F ar) (x y : Int32) : Sbs z w (f_X6_coveringLayers z x y w) (f_X7_coveringLayers (z + 168) x y) hI1 F ar := by
  have h6 := C.L.n6
  by_cases hc : isC x y = true
  · obtain ⟨k, hk, e1, e2⟩ := cellP hc
    refine Rd_ret (b := nI (cnt γ.g.n (covG γ.g k))) (C.rd ?_) (fun w' M => ⟨wz w' (z + 168) F 0, ar, ?_, M.sF _, wF_fr _, fun _ _ => rfl⟩) R
    · simp only [f_X6_coveringLayers, C.r0, ob, X6_exC]
      rw [if_pos hc, x_br, oe, if_pos C.L.o, e1, X4_countCovering C.L hk, x_br]
      rfl
    · have h1 := M.sF (upd F 0 0)
      have e3 := X7_cov_L h1 (g := γ.g) R.1 (by unfold upd; rw [if_pos rfl]) hk e2 γ.g.n 0 xfuel 0 (by omega) (by unfold xfuel; omega)
      rw [Nat.zero_add, cntR, nI_0] at e3
      simp only [f_X7_coveringLayers, X7_isCell, x_br]
      rw [if_pos hc, if_neg (by decide), M.p0, ob]
      exact e3
  · refine Rd_thr (E := IOB) (cd := 1) (b := 0) (C.rd ?_) (fun w' M => ⟨wz w' (z + 168) F 1, ar, ?_, M.sF _, wF_fr _, fun _ _ => rfl⟩) R (by decide) (by decide)
    · simp only [f_X6_coveringLayers, C.r0, ob, X6_exC]
      rw [if_neg hc, x_bt]
      rfl
    · have h1 := M.sF (upd F 0 1)
      simp only [f_X7_coveringLayers, X7_isCell, x_br]
      rw [if_neg hc, if_pos rfl, M.p0, ob]
      exact X7_cov_no h1 (by unfold upd; rw [if_pos rfl]) ⟨_, rfl⟩ x y 4999
end RE
