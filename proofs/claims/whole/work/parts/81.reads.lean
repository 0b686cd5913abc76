/-! ===== calls that only read: the layers ===== -/
def IOB : String := "java/lang/IndexOutOfBoundsException"
def NSE : String := "java/util/NoSuchElementException"
def IAE : String := "java/lang/IllegalArgumentException"
def ISE : String := "java/lang/IllegalStateException"
def UOE : String := "java/lang/UnsupportedOperationException"
abbrev wz (w : xW) (c : Nat) (F : Nat → Int32) (v : Int32) : xW := xset w c (.inr (7, moF c (upd F 0 v)))
section RD
variable {w : xW} {z c : Nat} {γ : CG} {F : Nat → Int32} {ar : Nat → Nat → Int32}
theorem MoAt.gz (M : MoAt w c F ar) (v : Int32) : x_geti (wz w c F v) c 7 0 = some v := (M.sF (upd F 0 v)).g0
theorem X6_exL (h : Cls w z γ) (p : Int32) : (∃ i, i < γ.g.n ∧ p = nI i ∧ f_X6_existingLayer z p w = x_ret (some (z + 1 + 2 + 2 * γ.g.sg i)) w) ∨ ((p < 0 ∨ nI γ.g.n ≤ p) ∧ f_X6_existingLayer z p w = x_thr IOB w) := by
  have h6 := h.L.n6
  rcases pos_or (show γ.g.n < 2 ^ 31 by omega) p with ⟨i, hi, rfl⟩ | hq
  · refine Or.inl ⟨i, hi, rfl, ?_⟩
    simp only [f_X6_existingLayer, h.r0, ob, oe, h.L.o, if_true, X4_at h.L hi, x_br]
  · refine Or.inr ⟨hq, ?_⟩
    simp only [f_X6_existingLayer, h.r0, ob, oe, h.L.o, if_true, X4_at_no h.L hq, x_br, oen]
    rfl
theorem X6_exC (x y : Int32) (w : xW) : f_X6_existingCell x y w = if isC x y = true then x_ret (y * 8 + x) w else x_thr IOB w := by
  simp only [f_X6_existingCell, X6_isCell, X6_cellNumber, x_br]
  by_cases h : isC x y = true
  · rw [if_pos h, if_neg (by decide), if_pos h]
  · rw [if_neg h, if_pos rfl, if_neg h]
    rfl
theorem neg_pos {n i : Nat} (hi : i < n) (hn : n ≤ 6) : ¬ (nI i < 0 ∨ nI n ≤ nI i) := fun hc => hc.elim (nI_pos (by omega)) (nI_ge hi (by omega))
theorem Cls.rd (h : Cls w z γ) {r : Int32 ⊕ String} {f : xO Int32} (e : f = some (r, bmp r w)) : CRd z w γ f r := ⟨w, e, Fr.rf, h⟩
theorem mode_c (h : Cls w z γ) {i : Nat} (hi : i < γ.g.n) : x_c (γ.g.m i) = γ.g.m i := by
  have h6 := h.L.n6
  exact (h.L.2.2.2.2.2.1 _ (h.L.2.2.2.1 i (by omega))).1
theorem vis_01 (h : Cls w z γ) {i : Nat} (hi : i < γ.g.n) : x_nar 2 (γ.g.v i) = γ.g.v i := by
  have h6 := h.L.n6
  exact (h.L.2.2.2.2.2.1 _ (h.L.2.2.2.1 i (by omega))).2
def hI1 : String → Int32 := fun E => if E = IOB then 1 else 0
theorem S_layerCount (C : Cls w z γ) (R : Rel γ F ar) (H : String → Int32) : Sbs z w (f_X6_layerCount z w) (f_X7_layerCount (z + 168)) H F ar := by
  refine Rd_ret (b := nI γ.g.n) (C.rd ?_) (fun w' M => ⟨wz w' (z + 168) F 0, ar, ?_, M.sF _, wF_fr _, fun _ _ => rfl⟩) R
  · simp only [f_X6_layerCount, C.r0, ob, oe, C.L.g1]
    rfl
  · have h1 := M.sF (upd F 0 0)
    have e := X7_n h1
    simp only [f_X7_layerCount, M.p0, ob, h1.r1, oe, e, R.1.1]
theorem S_mode (C : Cls w z γ) (R : Rel γ F ar) (p : Int32) : Sbs z w (f_X6_mode z p w) (f_X7_mode (z + 168) p) hI1 F ar := by
  have h6 := C.L.n6
  rcases X6_exL C p with ⟨i, hi, rfl, e⟩ | ⟨hq, e⟩
  · have hl := C.L.ly (i := i) (by omega)
    refine Rd_ret (b := γ.g.m i) (C.rd ?_) (fun w' M => ⟨wz w' (z + 168) F 0, ar, ?_, M.sF _, wF_fr _, fun _ _ => rfl⟩) R
    · simp only [f_X6_mode, C.o, if_true, e, x_br, oe, hl.g0, ob]
      rw [if_pos (show x_nar 1 (γ.g.m i) = γ.g.m i from mode_c C hi)]
      rfl
    · have h1 := M.sF (upd F 0 0)
      have e2 := X7_mode0 h1 (l := i) (by omega)
      rw [(R.1.2.2.2.2 i hi).1] at e2
      simp only [f_X7_mode, M.o, if_true, X7_isLayer M R.1.1 h6, x_br, isLayer_if]
      rw [if_neg (neg_pos hi h6), if_neg (by decide), M.p0, ob, M.gz, ob, if_pos (by decide), if_pos h1.o, e2, x_br, mode_c C hi, if_pos (show x_nar 1 (γ.g.m i) = γ.g.m i from mode_c C hi)]
  · refine Rd_thr (E := IOB) (cd := 1) (b := 0) (C.rd ?_) (fun w' M => ⟨wz w' (z + 168) F 1, ar, ?_, M.sF _, wF_fr _, fun _ _ => rfl⟩) R (by decide) (by decide)
    · simp only [f_X6_mode, C.o, if_true, e, x_bt]
      rfl
    · simp only [f_X7_mode, M.o, if_true, X7_isLayer M R.1.1 h6, x_br, isLayer_if]
      rw [if_pos hq, if_pos rfl, M.p0, ob, M.gz, ob, if_neg (by decide)]
theorem S_isVisible (C : Cls w z γ) (R : Rel γ F ar) (p : Int32) : Sbs z w (f_X6_isVisible z p w) (f_X7_isVisible (z + 168) p) hI1 F ar := by
  have h6 := C.L.n6
  rcases X6_exL C p with ⟨i, hi, rfl, e⟩ | ⟨hq, e⟩
  · have hl := C.L.ly (i := i) (by omega)
    obtain ⟨-, ev, hv, -⟩ := R.1.2.2.2.2 i hi
    refine Rd_ret (b := γ.g.v i) (C.rd ?_) (fun w' M => ⟨wz w' (z + 168) F 0, ar, ?_, M.sF _, wF_fr _, fun _ _ => rfl⟩) R
    · simp only [f_X6_isVisible, C.o, if_true, e, x_br, oe, hl.g1, ob]
      rw [if_pos (vis_01 C hi)]
      rfl
    · have h1 := M.sF (upd F 0 0)
      have e2 := X7_shown h1 (l := i) (by omega)
      rw [ev] at e2
      simp only [f_X7_isVisible, M.o, if_true, X7_isLayer M R.1.1 h6, x_br, isLayer_if]
      rw [if_neg (neg_pos hi h6), if_neg (by decide), M.p0, ob, M.gz, ob, if_pos rfl, if_pos h1.o, e2, x_br]
      rcases hv with hv | hv
      · rw [hv]; rfl
      · rw [hv]; rfl
  · refine Rd_thr (E := IOB) (cd := 1) (b := 0) (C.rd ?_) (fun w' M => ⟨wz w' (z + 168) F 1, ar, ?_, M.sF _, wF_fr _, fun _ _ => rfl⟩) R (by decide) (by decide)
    · simp only [f_X6_isVisible, C.o, if_true, e, x_bt]
      rfl
    · simp only [f_X7_isVisible, M.o, if_true, X7_isLayer M R.1.1 h6, x_br, isLayer_if]
      rw [if_pos hq, if_pos rfl, M.p0, ob, M.gz, ob, if_neg (by decide)]
theorem tone_p (R : Rel γ F ar) {i k : Nat} (hi : i < γ.g.n) (hk : k < 48) : st (ar 1) i k = γ.g.t i k + 1 ∧ okT (γ.g.t i k) := (R.1.2.2.2.2 i hi).2.2.2 k hk
theorem S_hasTone (C : Cls w z γ) (R : Rel γ F ar) (p x y : Int32) : Sbs z w (f_X6_hasTone z p x y w) (f_X7_hasTone (z + 168) p x y) hI1 F ar := by
  have h6 := C.L.n6
  have mz : ∀ w', MoAt w' (z + 168) F ar → f_X7_hasTone_J21 (z + 168) p x y (some (z + 168)) w' = x_ret 0 (wz w' (z + 168) F 1) := fun w' M => by
    unfold f_X7_hasTone_J21 f_X7_hasTone_J22
    rw [oe, M.p0, ob, M.gz, ob, if_neg (by decide)]
  rcases X6_exL C p with ⟨i, hi, rfl, e⟩ | ⟨hq, e⟩
  · have hl := C.L.ly (i := i) (by omega)
    by_cases hc : isC x y = true
    · obtain ⟨a, b, ha, hb, rfl, rfl⟩ := isC_of hc
      have hk : 8 * b + a < 48 := by omega
      obtain ⟨t1, t2⟩ := tone_p R hi hk
      refine Rd_ret (b := if γ.g.t i (8 * b + a) = -1 then 0 else 1) (C.rd ?_) (fun w' M => ⟨wz w' (z + 168) F 0, ar, ?_, M.sF _, wF_fr _, fun _ _ => rfl⟩) R
      · simp only [f_X6_hasTone, C.o, if_true, e, x_br, X6_exC]
        rw [if_pos hc, x_br, oe, if_pos hl.o, cell_nI, X3_toneAt hl hk, x_br]
        by_cases h9 : γ.g.t i (8 * b + a) = -1
        · rw [if_pos h9, if_pos h9]; rfl
        · rw [if_neg h9, if_neg h9]; rfl
      · have h1 := M.sF (upd F 0 0)
        have e2 := X7_at h1 (l := i) (by omega) hk
        rw [t1] at e2
        simp only [f_X7_hasTone, M.o, if_true, X7_isLayer M R.1.1 h6, x_br, isLayer_if, X7_isCell]
        rw [if_neg (neg_pos hi h6), if_neg (by decide), if_pos hc, if_neg (by decide)]
        unfold f_X7_hasTone_J22
        rw [oe, M.p0, ob, M.gz, ob, if_pos rfl, if_pos h1.o, cell_nI', e2, x_br]
        simp only [okT_le t2]
        by_cases h9 : γ.g.t i (8 * b + a) = -1
        · rw [if_pos h9, if_pos h9]
        · rw [if_neg h9, if_neg h9]
    · refine Rd_thr (E := IOB) (cd := 1) (b := 0) (C.rd ?_) (fun w' M => ⟨wz w' (z + 168) F 1, ar, ?_, M.sF _, wF_fr _, fun _ _ => rfl⟩) R (by decide) (by decide)
      · simp only [f_X6_hasTone, C.o, if_true, e, x_br, X6_exC]
        rw [if_neg hc, x_bt]
        rfl
      · simp only [f_X7_hasTone, M.o, if_true, X7_isLayer M R.1.1 h6, x_br, isLayer_if, X7_isCell]
        rw [if_neg (neg_pos hi h6), if_neg (by decide), if_neg hc, if_pos rfl]
        exact mz w' M
  · refine Rd_thr (E := IOB) (cd := 1) (b := 0) (C.rd ?_) (fun w' M => ⟨wz w' (z + 168) F 1, ar, ?_, M.sF _, wF_fr _, fun _ _ => rfl⟩) R (by decide) (by decide)
    · simp only [f_X6_hasTone, C.o, if_true, e, x_bt]
      rfl
    · simp only [f_X7_hasTone, M.o, if_true, X7_isLayer M R.1.1 h6, x_br, isLayer_if]
      rw [if_pos hq, if_pos rfl]
      exact mz w' M
def hI1N2 : String → Int32 := fun E => if E = IOB then 1 else if E = NSE then 2 else 0
theorem S_tone (C : Cls w z γ) (R : Rel γ F ar) (p x y : Int32) : Sbs z w (f_X6_tone z p x y w) (f_X7_tone (z + 168) p x y) hI1N2 F ar := by
  have h6 := C.L.n6
  have mz : ∀ w', MoAt w' (z + 168) F ar → f_X7_tone_J17 (z + 168) p x y (some (z + 168)) w' = x_ret 0 (wz w' (z + 168) F 1) := fun w' M => by
    unfold f_X7_tone_J17 f_X7_tone_J40
    rw [oe, M.p0, ob, M.gz, ob, if_neg (by decide)]
  rcases X6_exL C p with ⟨i, hi, rfl, e⟩ | ⟨hq, e⟩
  · have hl := C.L.ly (i := i) (by omega)
    by_cases hc : isC x y = true
    · obtain ⟨a, b, ha, hb, rfl, rfl⟩ := isC_of hc
      have hk : 8 * b + a < 48 := by omega
      obtain ⟨t1, t2⟩ := tone_p R hi hk
      have hz : (γ.g.t i (8 * b + a) + 1 = 0) = (γ.g.t i (8 * b + a) = -1) := by
        have := okT_st t2
        apply propext
        constructor
        · intro h9; rw [beq_iff_eq.mpr h9] at this; exact beq_iff_eq.mp this.symm
        · intro h9; rw [beq_iff_eq.mpr h9] at this; exact beq_iff_eq.mp this
      by_cases h9 : γ.g.t i (8 * b + a) = -1
      · refine Rd_thr (E := NSE) (cd := 2) (b := 0) (C.rd ?_) (fun w' M => ⟨wz w' (z + 168) F 2, ar, ?_, M.sF _, wF_fr _, fun _ _ => rfl⟩) R (by decide) (by decide)
        · simp only [f_X6_tone, C.o, if_true, e, x_br, X6_exC]
          rw [if_pos hc, x_br, oe, if_pos hl.o, cell_nI, X3_toneAt hl hk, x_br, if_pos h9]
          rfl
        · have e2 := X7_at M (l := i) (by omega) hk
          rw [t1] at e2
          simp only [f_X7_tone, M.o, if_true, X7_isLayer M R.1.1 h6, x_br, isLayer_if, X7_isCell]
          rw [if_neg (neg_pos hi h6), if_neg (by decide), if_pos hc, if_neg (by decide), cell_nI', e2, x_br, if_pos (hz.mpr h9)]
          unfold f_X7_tone_J40
          rw [oe, M.p0, ob, M.gz, ob, if_neg (by decide)]
      · refine Rd_ret (b := γ.g.t i (8 * b + a)) (C.rd ?_) (fun w' M => ⟨wz w' (z + 168) F 0, ar, ?_, M.sF _, wF_fr _, fun _ _ => rfl⟩) R
        · simp only [f_X6_tone, C.o, if_true, e, x_br, X6_exC]
          rw [if_pos hc, x_br, oe, if_pos hl.o, cell_nI, X3_toneAt hl hk, x_br, if_neg h9]
          rfl
        · have e2 := X7_at M (l := i) (by omega) hk
          have h1 := M.sF (upd F 0 0)
          have e3 := X7_at h1 (l := i) (by omega) hk
          rw [t1] at e2 e3
          simp only [f_X7_tone, M.o, if_true, X7_isLayer M R.1.1 h6, x_br, isLayer_if, X7_isCell]
          rw [if_neg (neg_pos hi h6), if_neg (by decide), if_pos hc, if_neg (by decide), cell_nI', e2, x_br, if_neg (fun h8 => h9 (hz.mp h8))]
          unfold f_X7_tone_J40
          rw [oe, M.p0, ob, M.gz, ob, if_pos (by decide), if_pos h1.o, cell_nI', e3, x_br, Int32.add_sub_cancel]
    · refine Rd_thr (E := IOB) (cd := 1) (b := 0) (C.rd ?_) (fun w' M => ⟨wz w' (z + 168) F 1, ar, ?_, M.sF _, wF_fr _, fun _ _ => rfl⟩) R (by decide) (by decide)
      · simp only [f_X6_tone, C.o, if_true, e, x_br, X6_exC]
        rw [if_neg hc, x_bt]
        rfl
      · simp only [f_X7_tone, M.o, if_true, X7_isLayer M R.1.1 h6, x_br, isLayer_if, X7_isCell]
        rw [if_neg (neg_pos hi h6), if_neg (by decide), if_neg hc, if_pos rfl]
        exact mz w' M
  · refine Rd_thr (E := IOB) (cd := 1) (b := 0) (C.rd ?_) (fun w' M => ⟨wz w' (z + 168) F 1, ar, ?_, M.sF _, wF_fr _, fun _ _ => rfl⟩) R (by decide) (by decide)
    · simp only [f_X6_tone, C.o, if_true, e, x_bt]
      rfl
    · simp only [f_X7_tone, M.o, if_true, X7_isLayer M R.1.1 h6, x_br, isLayer_if]
      rw [if_pos hq, if_pos rfl]
      exact mz w' M
theorem S_painted (C : Cls w z γ) (R : Rel γ F ar) (p : Int32) : Sbs z w (f_X6_painted z p w) (f_X7_painted (z + 168) p) hI1 F ar := by
  have h6 := C.L.n6
  rcases X6_exL C p with ⟨i, hi, rfl, e⟩ | ⟨hq, e⟩
  · have hl := C.L.ly (i := i) (by omega)
    refine Rd_ret (b := nI (tonG γ.g i)) (C.rd ?_) (fun w' M => ⟨wz w' (z + 168) F 0, ar, ?_, M.sF _, wF_fr _, fun _ _ => rfl⟩) R
    · simp only [f_X6_painted, C.o, if_true, e, x_br, oe, hl.o, X3_countTones hl]
      rfl
    · have h1 := M.sF (upd F 0 0)
      have e2 := X7_full h1 (g := γ.g) R.1 hi
      simp only [f_X7_painted, M.o, if_true, X7_isLayer M R.1.1 h6, x_br, isLayer_if]
      rw [if_neg (neg_pos hi h6), if_neg (by decide), M.p0, ob, M.gz, ob, if_pos (by decide), if_pos h1.o, e2, x_br]
  · refine Rd_thr (E := IOB) (cd := 1) (b := 0) (C.rd ?_) (fun w' M => ⟨wz w' (z + 168) F 1, ar, ?_, M.sF _, wF_fr _, fun _ _ => rfl⟩) R (by decide) (by decide)
    · simp only [f_X6_painted, C.o, if_true, e, x_bt]
      rfl
    · simp only [f_X7_painted, M.o, if_true, X7_isLayer M R.1.1 h6, x_br, isLayer_if]
      rw [if_pos hq, if_pos rfl, M.p0, ob, M.gz, ob, if_neg (by decide)]
theorem S_visibleCount (C : Cls w z γ) (R : Rel γ F ar) (H : String → Int32) : Sbs z w (f_X6_visibleCount z w) (f_X7_visibleCount (z + 168)) H F ar := by
  refine Rd_ret (b := nI (cnt γ.g.n fun i => γ.g.v i != 0)) (C.rd ?_) (fun w' M => ⟨wz w' (z + 168) F 0, ar, ?_, M.sF _, wF_fr _, fun _ _ => rfl⟩) R
  · simp only [f_X6_visibleCount, C.r0, ob, oe, C.L.o, if_true, X4_countVisible C.L, x_br]
    rfl
  · have h1 := M.sF (upd F 0 0)
    have e := X7_showing h1 (g := γ.g) R.1
    simp only [f_X7_visibleCount, M.p0, ob, h1.o, if_true, e, x_br]
theorem S_paintedCells (C : Cls w z γ) (R : Rel γ F ar) (H : String → Int32) : Sbs z w (f_X6_paintedCells z w) (f_X7_paintedCells (z + 168)) H F ar := by
  refine Rd_ret (b := γ.g.ps) (C.rd ?_) (fun w' M => ⟨wz w' (z + 168) F 0, ar, ?_, M.sF _, wF_fr _, fun _ _ => rfl⟩) R
  · simp only [f_X6_paintedCells, C.r0, ob, oe, C.L.g2]
    rfl
  · have h1 := M.sF (upd F 0 0)
    have e : x_ild (wz w' (z + 168) F 0) (z + 168 + 1) 0 1 = some γ.g.ps := by
      rw [← R.1.2.1]
      exact h1.ld 1 (by omega) (by omega) (i := 1) (by show 1 < 303; omega)
    simp only [f_X7_paintedCells, M.p0, ob, h1.r1, oe, e]
theorem S_erasedCells (C : Cls w z γ) (R : Rel γ F ar) (H : String → Int32) : Sbs z w (f_X6_erasedCells z w) (f_X7_erasedCells (z + 168)) H F ar := by
  refine Rd_ret (b := γ.g.es) (C.rd ?_) (fun w' M => ⟨wz w' (z + 168) F 0, ar, ?_, M.sF _, wF_fr _, fun _ _ => rfl⟩) R
  · simp only [f_X6_erasedCells, C.r0, ob, oe, C.L.g3]
    rfl
  · have h1 := M.sF (upd F 0 0)
    have e : x_ild (wz w' (z + 168) F 0) (z + 168 + 1) 0 2 = some γ.g.es := by
      rw [← R.1.2.2.1]
      exact h1.ld 1 (by omega) (by omega) (i := 2) (by show 2 < 303; omega)
    simp only [f_X7_erasedCells, M.p0, ob, h1.r1, oe, e]
def hN1 : String → Int32 := fun E => if E = NSE then 1 else 0
theorem fails_z (M : MoAt w c F ar) (v x : Int32) : f_X7_fails c x (wz w c F v) = x_ret 0 (wz w c F x) := by
  have h1 := M.sF (upd F 0 v)
  simp only [f_X7_fails, h1.p0, ob]
  congr 1
  show xset (xset w c (.inr (7, moF c (upd F 0 v)))) c (.inr (7, moF c (upd (upd F 0 v) 0 x))) = _
  rw [xset_set]
  congr 3
theorem S_errorPosition (C : Cls w z γ) (R : Rel γ F ar) : Sbs z w (f_X6_errorPosition z w) (f_X7_errorPosition (z + 168)) hN1 F ar := by
  obtain ⟨-, -, -, -, -, -, -, -, r15, r16⟩ := id R
  by_cases h1 : γ.ep = -1
  · refine Rd_thr (E := NSE) (cd := 1) (b := 0) (C.rd ?_) (fun w' M => ⟨wz w' (z + 168) F 1, ar, ?_, M.sF _, wF_fr _, fun _ _ => rfl⟩) R (by decide) (by decide)
    · simp only [f_X6_errorPosition, C.g7, ob]
      rw [if_pos h1]
      rfl
    · have k1 := M.sF (upd F 0 0)
      have e : x_geti (wz w' (z + 168) F 0) (z + 168) 7 15 = some (F 15) := k1.g15
      simp only [f_X7_errorPosition, M.p0, ob, e]
      rw [if_pos (r15.trans h1), if_pos k1.o, fails_z M, x_br]
  · refine Rd_ret (b := γ.ep) (C.rd ?_) (fun w' M => ⟨wz w' (z + 168) F 0, ar, ?_, M.sF _, wF_fr _, fun _ _ => rfl⟩) R
    · simp only [f_X6_errorPosition, C.g7, ob]
      rw [if_neg h1]
      rfl
    · have k1 := M.sF (upd F 0 0)
      have e : x_geti (wz w' (z + 168) F 0) (z + 168) 7 15 = some (F 15) := k1.g15
      simp only [f_X7_errorPosition, M.p0, ob, e, r15]
      rw [if_neg h1]
theorem S_failedCommand (C : Cls w z γ) (R : Rel γ F ar) : Sbs z w (f_X6_failedCommand z w) (f_X7_failedCommand (z + 168)) hN1 F ar := by
  obtain ⟨-, -, -, -, -, -, -, -, r15, r16⟩ := id R
  by_cases h1 : γ.fc = -1
  · refine Rd_thr (E := NSE) (cd := 1) (b := 0) (C.rd ?_) (fun w' M => ⟨wz w' (z + 168) F 1, ar, ?_, M.sF _, wF_fr _, fun _ _ => rfl⟩) R (by decide) (by decide)
    · simp only [f_X6_failedCommand, C.g8, ob]
      rw [if_pos h1]
      rfl
    · have k1 := M.sF (upd F 0 0)
      have e : x_geti (wz w' (z + 168) F 0) (z + 168) 7 16 = some (F 16) := k1.g16
      simp only [f_X7_failedCommand, M.p0, ob, e]
      rw [if_pos (r16.trans h1), if_pos k1.o, fails_z M, x_br]
  · refine Rd_ret (b := γ.fc) (C.rd ?_) (fun w' M => ⟨wz w' (z + 168) F 0, ar, ?_, M.sF _, wF_fr _, fun _ _ => rfl⟩) R
    · simp only [f_X6_failedCommand, C.g8, ob]
      rw [if_neg h1]
      rfl
    · have k1 := M.sF (upd F 0 0)
      have e : x_geti (wz w' (z + 168) F 0) (z + 168) 7 16 = some (F 16) := k1.g16
      simp only [f_X7_failedCommand, M.p0, ob, e, r16]
      rw [if_neg h1]
theorem S_undoCount (C : Cls w z γ) (R : Rel γ F ar) (H : String → Int32) : Sbs z w (f_X6_undoCount z w) (f_X7_undoCount (z + 168)) H F ar := by
  refine Rd_ret (b := nI γ.sz) (C.rd ?_) (fun w' M => ⟨wz w' (z + 168) F 0, ar, ?_, M.sF _, wF_fr _, fun _ _ => rfl⟩) R
  · simp only [f_X6_undoCount, C.r1, ob, oe, C.H.g2]
    rfl
  · have h1 := M.sF (upd F 0 0)
    have e : x_geti (wz w' (z + 168) F 0) (z + 168) 7 5 = some (F 5) := h1.g5
    simp only [f_X7_undoCount, M.p0, ob, e, R.2.1.1]
end RD
