/-! ===== the output: all layers ===== -/
/-- a number written, a layer described -/
def numS (s : Nat × (Nat → Int32)) (x : Int32) : Nat × (Nat → Int32) := if x < 10 then pt s (48 + (x - x / 10 * 10)) else pt (pt s (48 + (x / 10))) (48 + (x - x / 10 * 10))
def visS (g : WL) (i : Nat) (s : Nat × (Nat → Int32)) : Nat × (Nat → Int32) := if g.v i = 0 then pt s 45 else s
def desS (g : WL) (s : Nat × (Nat → Int32)) (i : Nat) : Nat × (Nat → Int32) := numS (visS g i (pt s (g.m i))) (nI (tonG g i))
def layS (g : WL) (s : Nat × (Nat → Int32)) (i : Nat) : Nat × (Nat → Int32) := desS g (if i = 0 then s else pt s 32) i
theorem numS_1 (s : Nat × (Nat → Int32)) (x : Int32) : (numS s x).1 ≤ s.1 + 2 := by
  unfold numS
  split
  · show s.1 + 1 ≤ s.1 + 2; omega
  · show s.1 + 1 + 1 ≤ s.1 + 2; omega
theorem visS_1 (g : WL) (i : Nat) (s : Nat × (Nat → Int32)) : (visS g i s).1 ≤ s.1 + 1 := by
  unfold visS
  split
  · exact Nat.le_refl _
  · omega
theorem desS_1 (g : WL) (s : Nat × (Nat → Int32)) (i : Nat) : (desS g s i).1 ≤ s.1 + 4 := by
  have h1 := numS_1 (visS g i (pt s (g.m i))) (nI (tonG g i))
  have h2 := visS_1 g i (pt s (g.m i))
  have h3 : (pt s (g.m i)).1 = s.1 + 1 := rfl
  unfold desS
  omega
theorem layS_1 (g : WL) (s : Nat × (Nat → Int32)) (i : Nat) : (layS g s i).1 ≤ s.1 + 5 := by
  have h1 := desS_1 g (if i = 0 then s else pt s 32) i
  have h2 : (if i = 0 then s else pt s 32).1 ≤ s.1 + 1 := by
    split
    · omega
    · exact Nat.le_refl _
  unfold layS
  omega
section OV
variable {w : xW} {z c : Nat} {γ : CG} {F : Nat → Int32} {ar : Nat → Nat → Int32} {s : Nat × (Nat → Int32)}
theorem CO.put (h : CO w z γ s) (hs : s.1 < 32) {x y : Int32} (hx : x_c x = x_c y) : ∃ w', f_X5_put (z + 166) x w = x_ret () w' ∧ CO w' z γ (pt s y) ∧ Fr (clc z) w w' := by
  obtain ⟨w', e, q1, q2⟩ := h.1.put hs hx
  exact ⟨w', e, h.next q1 q2, ouc_clc q2⟩
theorem CO.num (h : CO w z γ s) (hs : s.1 + 1 < 32) (x : Int32) : ∃ w', f_X5_putNumber (z + 166) x w = x_ret () w' ∧ CO w' z γ (numS s x) ∧ Fr (clc z) w w' := by
  unfold f_X5_putNumber numS
  by_cases hx : x < 10
  · obtain ⟨w', e, q1, q2⟩ := h.put (by omega) (x := x_c (48 + (x - x / 10 * 10))) (y := 48 + (x - x / 10 * 10)) (x_cc _)
    rw [if_pos hx, if_pos hx, if_pos h.1.o, e, x_br]
    exact ⟨w', rfl, q1, q2⟩
  · obtain ⟨w1, e1, q1, q2⟩ := h.put (by omega) (x := x_c (48 + (x / 10))) (y := 48 + (x / 10)) (x_cc _)
    obtain ⟨w2, e2, q3, q4⟩ := q1.put (show (pt s (48 + (x / 10))).1 < 32 from hs) (x := x_c (48 + (x - x / 10 * 10))) (y := 48 + (x - x / 10 * 10)) (x_cc _)
    rw [if_neg hx, if_neg hx, if_pos h.1.o, e1, x_br, if_pos q1.1.o, e2, x_br]
    exact ⟨w2, rfl, q3, q2.tr q4⟩
theorem CO.des (h : CO w z γ s) (hs : s.1 + 4 < 32) {i : Nat} (hi : i < γ.g.n) : ∃ w', f_X6_describe z (some (z + 1 + 2 + 2 * γ.g.sg i)) w = x_ret () w' ∧ CO w' z γ (desS γ.g s i) ∧ Fr (clc z) w w' := by
  obtain ⟨hO, t, C⟩ := id h
  have h6 := C.L.n6
  have hl : LyAt w (z + 1 + 2 + 2 * γ.g.sg i) (γ.g.m i) (γ.g.v i) (γ.g.t i) := C.L.ly (i := i) (by have : γ.g.n ≤ 6 := h6; omega)
  obtain ⟨w1, e1, q1, q2⟩ := h.put (by omega) (x := γ.g.m i) (y := γ.g.m i) rfl
  obtain ⟨-, t1, C1⟩ := id q1
  have hl1 : LyAt w1 (z + 1 + 2 + 2 * γ.g.sg i) (γ.g.m i) (γ.g.v i) (γ.g.t i) := C1.L.ly (i := i) (by have : γ.g.n ≤ 6 := h6; omega)
  simp only [f_X6_describe, oe, C.r6, ob, hl.g0, hO.o, if_true, e1, x_br, hl1.g1]
  have p1 : (pt s (γ.g.m i)).1 = s.1 + 1 := rfl
  unfold desS visS
  by_cases hv : γ.g.v i = 0
  · obtain ⟨w2, e2, q3, q4⟩ := q1.put (by omega) (x := 45) (y := 45) rfl
    obtain ⟨-, t2, C2⟩ := id q3
    have hl2 : LyAt w2 (z + 1 + 2 + 2 * γ.g.sg i) (γ.g.m i) (γ.g.v i) (γ.g.t i) := C2.L.ly (i := i) (by have : γ.g.n ≤ 6 := h6; omega)
    obtain ⟨w3, e3, q5, q6⟩ := q3.num (by show s.1 + 1 + 1 + 1 < 32; omega) (nI (tonG γ.g i))
    have e4 : f_X3_countTones (z + 1 + 2 + 2 * γ.g.sg i) w2 = x_ret (nI (tonG γ.g i)) w2 := X3_countTones hl2
    rw [if_pos hv, if_pos hv, C1.r6, ob, oe, if_pos q1.1.o, e2, x_br, C2.r6, ob, if_pos hl2.o, e4, x_br, oe, if_pos q3.1.o, e3, x_br]
    exact ⟨w3, rfl, q5, (q2.tr q4).tr q6⟩
  · obtain ⟨w3, e3, q5, q6⟩ := q1.num (by omega) (nI (tonG γ.g i))
    have e4 : f_X3_countTones (z + 1 + 2 + 2 * γ.g.sg i) w1 = x_ret (nI (tonG γ.g i)) w1 := X3_countTones hl1
    rw [if_neg hv, if_neg hv, C1.r6, ob, if_pos hl1.o, e4, x_br, oe, if_pos q1.1.o, e3, x_br]
    exact ⟨w3, rfl, q5, q2.tr q6⟩
theorem C_lay_L : ∀ (d k n : Nat) (w : xW) (s : Nat × (Nat → Int32)), k + d = γ.g.n → d < n → s.1 ≤ 5 * k → CO w z γ s →
    ∃ w', f_X6_writeLayers_L9 n z (nI k) w = x_ret (nI ((List.range' k d).foldl (layS γ.g) s).1) w' ∧ CO w' z γ ((List.range' k d).foldl (layS γ.g) s) ∧ Fr (clc z) w w' := by
  intro d
  induction d with
  | zero =>
    intro k n w s hk hn hs h
    obtain ⟨n, rfl⟩ : ∃ m, n = m + 1 := ⟨n - 1, by omega⟩
    obtain ⟨hO, t, C⟩ := id h
    have h6 : γ.g.n ≤ 6 := C.L.n6
    have g1 : x_geti w (z + 1) 4 1 = some (nI γ.g.n) := C.L.g1
    have e1 : x_geti w (z + 166) 5 1 = some (nI s.1) := C.O.g1
    refine ⟨w, ?_, h, Fr.rf⟩
    simp only [f_X6_writeLayers_L9]
    rw [C.r0, ob, oe, g1, ob, if_pos (nI_le (by omega) (by omega)), C.r6, ob, oe, e1, ob]
    rfl
  | succ d ih =>
    intro k n w s hk hn hs h
    obtain ⟨n, rfl⟩ : ∃ m, n = m + 1 := ⟨n - 1, by omega⟩
    obtain ⟨hO, t, C⟩ := id h
    have h6 : γ.g.n ≤ 6 := C.L.n6
    have g1 : x_geti w (z + 1) 4 1 = some (nI γ.g.n) := C.L.g1
    have at1 : f_X4_at (z + 1) (nI k) w = x_ret (some (z + 1 + 2 + 2 * γ.g.sg k)) w := X4_at C.L (show k < γ.g.n by omega)
    simp only [f_X6_writeLayers_L9]
    rw [C.r0, ob, oe, g1, ob, if_neg (nI_ge (by omega) (by omega)), show List.range' k (d + 1) = k :: List.range' (k + 1) d from rfl, List.foldl_cons]
    by_cases h0 : k = 0
    · subst h0
      obtain ⟨w1, e1, q1, q2⟩ := h.des (by omega) (i := 0) (by omega)
      obtain ⟨w2, e2, q3, q4⟩ := ih (0 + 1) n w1 (layS γ.g s 0) (by omega) (by omega) (by have := layS_1 γ.g s 0; omega) (by unfold layS; rw [if_pos rfl]; exact q1)
      refine ⟨w2, ?_, q3, q2.tr q4⟩
      rw [if_pos (show nI 0 ≤ 0 by decide), ob, oe, if_pos C.L.o, at1, x_br, if_pos C.o, e1, x_br, ← nI_succ]
      exact e2
    · obtain ⟨w1, e1, q1, q2⟩ := h.put (by omega) (x := 32) (y := 32) rfl
      obtain ⟨-, t1, C1⟩ := id q1
      have at2 : f_X4_at (z + 1) (nI k) w1 = x_ret (some (z + 1 + 2 + 2 * γ.g.sg k)) w1 := X4_at C1.L (show k < γ.g.n by omega)
      obtain ⟨w2, e2, q3, q4⟩ := q1.des (by show s.1 + 1 + 4 < 32; omega) (i := k) (by omega)
      obtain ⟨w3, e3, q5, q6⟩ := ih (k + 1) n w2 (layS γ.g s k) (by omega) (by omega) (by have := layS_1 γ.g s k; omega) (by unfold layS; rw [if_neg h0]; exact q3)
      refine ⟨w3, ?_, q5, (q2.tr q4).tr q6⟩
      rw [if_neg (nI_nle (by omega) (by omega)), C.r6, ob, oe, if_pos hO.o, e1, x_br, C1.r0, ob, oe, if_pos C1.L.o, at2, x_br, if_pos C1.o, e2, x_br, ← nI_succ]
      exact e3
/-! the model writes -/
theorem M_J55 {g : WL} (M : MoAt w c F ar) (r : RelS g (ar 1)) (h : OM F ar s) (hs : s.1 + 1 < 40) {i : Nat} (hi : i < g.n) (K : Nat → Int32 → xW → xO Int32) :
    ∃ w' F' ar', f_X7_writeLayers_J55 K c (nI i) w = K c (nI (i + 1)) w' ∧ MoAt w' c F' ar' ∧ OM F' ar' (numS s (nI (tonG g i))) ∧ Fr (moc c) w w' ∧ (∀ k, k ≠ 14 → F' k = F k) ∧ ∀ k, k ≠ 7 → ar' k = ar k := by
  have e0 := X7_full M r hi
  have h48 := tonG_le g i
  unfold f_X7_writeLayers_J55 numS
  rw [if_pos M.o, e0, x_br, ← nI_succ]
  by_cases hx : tonG g i < 10
  · have hx' : nI (tonG g i) < 10 := nI_lt (b := 10) hx (by omega)
    obtain ⟨w1, F1, ar1, e1, M1, h1, f1, a1, a2⟩ := OM.put M h (by omega) (48 + (nI (tonG g i) - nI (tonG g i) / 10 * 10))
    rw [if_pos (show nI (tonG g i) ≤ 9 from nI_le (b := 9) (by omega) (by omega)), if_pos hx', if_pos M.o, e1, x_br]
    exact ⟨w1, F1, ar1, rfl, M1, h1, f1, a1, a2⟩
  · have hx' : ¬ nI (tonG g i) < 10 := nI_nlt (b := 10) (by omega) (by omega)
    obtain ⟨w1, F1, ar1, e1, M1, h1, f1, a1, a2⟩ := OM.put M h (by omega) (48 + (nI (tonG g i) / 10))
    obtain ⟨w2, F2, ar2, e2, M2, h2, f2, b1, b2⟩ := OM.put M1 h1 (by show s.1 + 1 < 40; omega) (48 + (nI (tonG g i) - nI (tonG g i) / 10 * 10))
    rw [if_neg (show ¬ nI (tonG g i) ≤ 9 from nI_ge (a := 9) (by omega) (by omega)), if_neg hx', if_pos M.o, e1, x_br, if_pos M1.o, e2, x_br]
    exact ⟨w2, F2, ar2, rfl, M2, h2, f1.tr f2, fun k hk => (b1 k hk).trans (a1 k hk), fun k hk => (b2 k hk).trans (a2 k hk)⟩
theorem M_J32 {g : WL} (M : MoAt w c F ar) (r : RelS g (ar 1)) (h : OM F ar s) (hs : s.1 + 4 < 40) {i : Nat} (hi : i < g.n) (K : Nat → Int32 → xW → xO Int32) :
    ∃ w' F' ar', f_X7_writeLayers_J32 K c (nI i) w = K c (nI (i + 1)) w' ∧ MoAt w' c F' ar' ∧ OM F' ar' (desS g s i) ∧ Fr (moc c) w w' ∧ (∀ k, k ≠ 14 → F' k = F k) ∧ ∀ k, k ≠ 7 → ar' k = ar k := by
  have h6 := r.2.2.2.1
  have e0 := X7_mode0 M (l := i) (by omega)
  rw [(r.2.2.2.2 i hi).1] at e0
  obtain ⟨w1, F1, ar1, e1, M1, h1, f1, a1, a2⟩ := OM.put M h (by omega) (g.m i)
  have r1 : RelS g (ar1 1) := by rw [a2 1 (by omega)]; exact r
  have e2 := X7_shown M1 (l := i) (by omega)
  rw [shown_if r1 hi] at e2
  have p1 : (pt s (g.m i)).1 = s.1 + 1 := rfl
  unfold f_X7_writeLayers_J32 desS visS
  rw [if_pos M.o, e0, x_br, if_pos M.o, e1, x_br, if_pos M1.o, e2, x_br]
  by_cases hv : g.v i = 0
  · obtain ⟨w2, F2, ar2, e3, M2, h2, f2, b1, b2⟩ := OM.put M1 h1 (by omega) 45
    obtain ⟨w3, F3, ar3, e4, M3, h3, f3, c1, c2⟩ := M_J55 M2 (by rw [b2 1 (by omega)]; exact r1) h2 (by show s.1 + 1 + 1 + 1 < 40; omega) hi K
    rw [if_pos hv, if_pos rfl, if_pos M1.o, e3, x_br, if_pos hv]
    exact ⟨w3, F3, ar3, e4, M3, h3, (f1.tr f2).tr f3, fun k hk => (c1 k hk).trans ((b1 k hk).trans (a1 k hk)), fun k hk => (c2 k hk).trans ((b2 k hk).trans (a2 k hk))⟩
  · obtain ⟨w3, F3, ar3, e4, M3, h3, f3, c1, c2⟩ := M_J55 M1 r1 h1 (by omega) hi K
    rw [if_neg hv, if_neg (by decide), if_neg hv]
    exact ⟨w3, F3, ar3, e4, M3, h3, f1.tr f3, fun k hk => (c1 k hk).trans (a1 k hk), fun k hk => (c2 k hk).trans (a2 k hk)⟩
theorem M_lay_L {g : WL} : ∀ (d k n : Nat) (w : xW) (F : Nat → Int32) (ar : Nat → Nat → Int32) (s : Nat × (Nat → Int32)), k + d = g.n → d < n → s.1 ≤ 5 * k → MoAt w c F ar → RelS g (ar 1) → OM F ar s →
    ∃ w' F' ar', f_X7_writeLayers_L12 n c (nI k) w = x_ret (nI ((List.range' k d).foldl (layS g) s).1) w' ∧ MoAt w' c F' ar' ∧ OM F' ar' ((List.range' k d).foldl (layS g) s) ∧ Fr (moc c) w w' ∧ (∀ k, k ≠ 14 → F' k = F k) ∧ ∀ k, k ≠ 7 → ar' k = ar k := by
  intro d
  induction d with
  | zero =>
    intro k n w F ar s hk hn hs M r h
    obtain ⟨n, rfl⟩ : ∃ m, n = m + 1 := ⟨n - 1, by omega⟩
    have h6 := r.2.2.2.1
    refine ⟨w, F, ar, ?_, M, h, Fr.rf, fun _ _ => rfl, fun _ _ => rfl⟩
    simp only [f_X7_writeLayers_L12]
    rw [M.r1, ob, oe, X7_n M, ob, r.1, if_pos (nI_le (by omega) (by omega)), M.g14, ob, h.1]
    rfl
  | succ d ih =>
    intro k n w F ar s hk hn hs M r h
    obtain ⟨n, rfl⟩ : ∃ m, n = m + 1 := ⟨n - 1, by omega⟩
    have h6 := r.2.2.2.1
    simp only [f_X7_writeLayers_L12]
    rw [M.r1, ob, oe, X7_n M, ob, r.1, if_neg (nI_ge (by omega) (by omega)), show List.range' k (d + 1) = k :: List.range' (k + 1) d from rfl, List.foldl_cons]
    by_cases h0 : k = 0
    · subst h0
      obtain ⟨w1, F1, ar1, e1, M1, h1, f1, a1, a2⟩ := M_J32 M r h (by omega) (i := 0) (by omega) (fun a0 x1 w => f_X7_writeLayers_L12 n a0 x1 w)
      obtain ⟨w2, F2, ar2, e2, M2, h2, f2, b1, b2⟩ := ih (0 + 1) n w1 F1 ar1 (layS g s 0) (by omega) (by omega) (by have := layS_1 g s 0; omega) M1 (by rw [a2 1 (by omega)]; exact r) (by unfold layS; rw [if_pos rfl]; exact h1)
      refine ⟨w2, F2, ar2, ?_, M2, h2, f1.tr f2, fun k hk => (b1 k hk).trans (a1 k hk), fun k hk => (b2 k hk).trans (a2 k hk)⟩
      rw [if_pos (show nI 0 ≤ 0 by decide), e1]
      exact e2
    · obtain ⟨w0, F0, ar0, e0, M0, h0', f0, z1, z2⟩ := OM.put M h (by omega) 32
      obtain ⟨w1, F1, ar1, e1, M1, h1, f1, a1, a2⟩ := M_J32 M0 (by rw [z2 1 (by omega)]; exact r) h0' (by show s.1 + 1 + 4 < 40; omega) (i := k) (by omega) (fun a0 x1 w => f_X7_writeLayers_L12 n a0 x1 w)
      obtain ⟨w2, F2, ar2, e2, M2, h2, f2, b1, b2⟩ := ih (k + 1) n w1 F1 ar1 (layS g s k) (by omega) (by omega) (by have := layS_1 g s k; omega) M1 (by rw [a2 1 (by omega), z2 1 (by omega)]; exact r) (by unfold layS; rw [if_neg h0]; exact h1)
      refine ⟨w2, F2, ar2, ?_, M2, h2, (f0.tr f1).tr f2, fun k hk => (b1 k hk).trans ((a1 k hk).trans (z1 k hk)), fun k hk => (b2 k hk).trans ((a2 k hk).trans (z2 k hk))⟩
      rw [if_neg (nI_nle (by omega) (by omega)), if_pos M.o, e0, x_br, e1]
      exact e2
theorem S_writeLayers (C : Cls w z γ) (R : Rel γ F ar) (H : String → Int32) : Sbs z w (f_X6_writeLayers z w) (f_X7_writeLayers (z + 168)) H F ar := by
  have h6 := C.L.n6
  obtain ⟨w1, e1, c1, f1⟩ := C.clr
  obtain ⟨w2, e2, ⟨⟨t, o1, o2⟩, t', C2⟩, f2⟩ := C_lay_L (z := z) (γ := γ) γ.g.n 0 xfuel w1 (0, fun _ => 0) (by omega) (by unfold xfuel; omega) (Nat.zero_le _) c1
  have C3 : Cls w2 z (γ.wo ((List.range' 0 γ.g.n).foldl (layS γ.g) (0, fun _ => 0)).1 t) := by
    have hh := C2.onO (w' := w2) o1 (Fr.rf)
    exact hh
  refine ⟨.inl (nI ((List.range' 0 γ.g.n).foldl (layS γ.g) (0, fun _ => 0)).1), w2, _, 0, ?_, (ouc_clc f1).tr f2, C3, fun E hE => (by cases hE), fun _ _ => rfl, fun w' M => ?_⟩
  · simp only [f_X6_writeLayers]
    rw [C.r6, ob, oe, if_pos C.O.o, e1, x_br]
    rw [nI_0] at e2
    exact e2
  · have h1 := M.sF (upd F 0 0)
    have h2 := h1.sF (upd (upd F 0 0) 14 0)
    obtain ⟨w3, F3, ar3, e3, M3, o3, f3, a1, a2⟩ := M_lay_L (c := z + 168) (g := γ.g) γ.g.n 0 xfuel _ _ ar (0, fun _ => 0) (by omega) (by unfold xfuel; omega) (Nat.zero_le _) h2 R.1 ⟨by unfold upd; rw [if_pos rfl]; exact nI_0.symm, fun i hi => absurd hi (Nat.not_lt_zero i)⟩
    rw [nI_0] at e3
    have u : ∀ k, k ≠ 0 → k ≠ 14 → F3 k = F k := fun k k0 k14 => by
      rw [a1 k k14]
      unfold upd
      rw [if_neg k14, if_neg k0]
    refine ⟨w3, F3, ar3, _, ?_, M3, ((wF_fr _).tr (wF_fr _)).tr f3, R.out o3 o2 (fun k hk => u k (by omega) (by omega)) a2, ?_, fun v hv => (by cases hv; rfl)⟩
    · simp only [f_X7_writeLayers, M.p0, ob, h1.p14]
      exact e3
    · rw [a1 0 (by omega)]
      unfold upd
      rw [if_neg (by omega), if_pos rfl]
end OV
