/-! ===== the output ===== -/
section OU
variable {w : xW} {z c : Nat} {γ : CG} {F : Nat → Int32} {ar : Nat → Nat → Int32}
/-- a character written: how many, which -/
def pt (s : Nat × (Nat → Int32)) (x : Int32) : Nat × (Nat → Int32) := (s.1 + 1, upd s.2 s.1 x)
/-- the class's output stands for s -/
def OC (z : Nat) (w : xW) (s : Nat × (Nat → Int32)) : Prop := ∃ t, OuAt w (z + 166) s.1 t ∧ ∀ i, i < s.1 → t i = x_c (s.2 i)
theorem OC.put {s : Nat × (Nat → Int32)} (h : OC z w s) (hs : s.1 < 32) {x y : Int32} (hx : x_c x = x_c y) : ∃ w', f_X5_put (z + 166) x w = x_ret () w' ∧ OC z w' (pt s y) ∧ Fr (ouc (z + 166)) w w' := by
  obtain ⟨t, h1, h2⟩ := h
  obtain ⟨w', e, q1, q2⟩ := X5_put h1 hs x
  refine ⟨w', e, ⟨_, q1, fun i hi => ?_⟩, q2⟩
  have hi' : i < s.1 + 1 := hi
  show upd t s.1 (x_nar 1 x) i = x_c (upd s.2 s.1 y i)
  unfold upd
  by_cases his : i = s.1
  · rw [if_pos his, if_pos his]
    exact hx
  · rw [if_neg his, if_neg his]
    exact h2 i (by omega)
theorem OC.o {s : Nat × (Nat → Int32)} (h : OC z w s) : x_isO w (z + 166) 5 = true := by
  obtain ⟨t, h1, -⟩ := h
  exact h1.o
/-- the model's output stands for s -/
def OM (F : Nat → Int32) (ar : Nat → Nat → Int32) (s : Nat × (Nat → Int32)) : Prop := F 14 = nI s.1 ∧ ∀ i, i < s.1 → ar 7 i = s.2 i
theorem OM.put {s : Nat × (Nat → Int32)} (M : MoAt w c F ar) (h : OM F ar s) (hs : s.1 < 40) (x : Int32) : ∃ w' F' ar', f_X7_writes c x w = x_ret () w' ∧ MoAt w' c F' ar' ∧ OM F' ar' (pt s x) ∧ Fr (moc c) w w' ∧ (∀ k, k ≠ 14 → F' k = F k) ∧ ∀ k, k ≠ 7 → ar' k = ar k := by
  obtain ⟨h1, h2⟩ := h
  have k1 := M.sA 7 (by omega) (by omega) (upd (ar 7) s.1 x)
  have k2 := k1.sF (upd F 14 (nI (s.1 + 1)))
  have e1 := M.st 7 (by omega) (by omega) (i := s.1) (by show _ < 40; omega) x
  refine ⟨_, _, _, ?_, k2, ⟨by unfold upd; rw [if_pos rfl]; rfl, fun i hi => ?_⟩, (wA_fr (by omega) _).tr (wF_fr _), fun k hk => by unfold upd; rw [if_neg hk], fun k hk => if_neg hk⟩
  · simp only [f_X7_writes, M.r9, M.g14, ob, oe, h1, e1]
    rw [k1.g14, ob, h1, ← nI_succ, k1.p14, ob]
  · have hi' : i < s.1 + 1 := hi
    show upd (ar 7) s.1 x i = upd s.2 s.1 x i
    unfold upd
    by_cases his : i = s.1
    · rw [if_pos his, if_pos his]
    · rw [if_neg his, if_neg his]
      exact h2 i (by omega)
/-- a tone as a digit -/
def hexV (x : Int32) : Int32 := if 10 ≤ x then (97 + x) - 10 else 48 + x
theorem OC.hex {s : Nat × (Nat → Int32)} (h : OC z w s) (hs : s.1 < 32) (x : Int32) : ∃ w', f_X5_putHexDigit (z + 166) x w = x_ret () w' ∧ OC z w' (pt s (hexV x)) ∧ Fr (ouc (z + 166)) w w' := by
  unfold f_X5_putHexDigit hexV
  by_cases hx : 10 ≤ x
  · obtain ⟨w', e, q1, q2⟩ := h.put hs (x := x_c ((97 + x) - 10)) (y := (97 + x) - 10) (x_cc _)
    rw [if_pos hx, if_pos hx, if_pos h.o, e, x_br]
    exact ⟨w', rfl, q1, q2⟩
  · obtain ⟨w', e, q1, q2⟩ := h.put hs (x := x_c (48 + x)) (y := 48 + x) (x_cc _)
    rw [if_neg hx, if_neg hx, if_pos h.o, e, x_br]
    exact ⟨w', rfl, q1, q2⟩
/-- a class whose output is s -/
def CO (w : xW) (z : Nat) (γ : CG) (s : Nat × (Nat → Int32)) : Prop := OC z w s ∧ ∃ t, Cls w z (γ.wo s.1 t)
theorem CO.next {w' : xW} {s s' : Nat × (Nat → Int32)} (h : CO w z γ s) (q1 : OC z w' s') (q2 : Fr (ouc (z + 166)) w w') : CO w' z γ s' := by
  obtain ⟨-, t, C⟩ := h
  obtain ⟨t', o1, o2⟩ := q1
  exact ⟨⟨t', o1, o2⟩, t', C.onO o1 q2⟩
theorem ouc_clc {w1 w2 : xW} (h : Fr (ouc (z + 166)) w1 w2) : Fr (clc z) w1 w2 := h.mono (fun q hq => by unfold ouc at hq; exact ⟨by omega, by omega⟩)
/-- the digits of a row -/
def rowS (T : Nat → Int32) (y : Nat) (s : Nat × (Nat → Int32)) (x : Nat) : Nat × (Nat → Int32) := pt s (hexV (T (8 * y + x)))
theorem rowS_1 (T : Nat → Int32) (y : Nat) : ∀ (d k : Nat) (s : Nat × (Nat → Int32)), ((List.range' k d).foldl (rowS T y) s).1 = s.1 + d
  | 0, _, _ => rfl
  | d + 1, k, s => by
    rw [show List.range' k (d + 1) = k :: List.range' (k + 1) d from rfl, List.foldl_cons, rowS_1 T y d (k + 1)]
    show s.1 + 1 + d = _
    omega
theorem C_row_L {y : Nat} (hy : y < 6) : ∀ (d k n : Nat) (w : xW) (s : Nat × (Nat → Int32)), k + d = 8 → d < n → s.1 = k → CO w z γ s →
    ∃ w', f_X6_writeRow_L30 n z (nI y) (nI k) w = x_ret (nI 8) w' ∧ CO w' z γ ((List.range' k d).foldl (rowS (seeG γ.g) y) s) ∧ Fr (clc z) w w' := by
  intro d
  induction d with
  | zero =>
    intro k n w s hk hn hs h
    obtain ⟨n, rfl⟩ : ∃ m, n = m + 1 := ⟨n - 1, by omega⟩
    obtain ⟨hO, t, C⟩ := id h
    refine ⟨w, ?_, h, Fr.rf⟩
    have e1 : x_geti w (z + 166) 5 1 = some (nI s.1) := C.O.g1
    simp only [f_X6_writeRow_L30]
    rw [if_pos (show (8 : Int32) ≤ nI k from nI_le (a := 8) (by omega) (by omega)), C.r6, ob, oe, e1, ob, show s.1 = 8 by omega]
  | succ d ih =>
    intro k n w s hk hn hs h
    obtain ⟨n, rfl⟩ : ∃ m, n = m + 1 := ⟨n - 1, by omega⟩
    obtain ⟨hO, t, C⟩ := id h
    have e1 : f_X4_toneFrom (z + 1) 0 (nI (8 * y + k)) w = x_ret (seeG γ.g (8 * y + k)) w := X4_see C.L (by omega)
    obtain ⟨w1, e2, q1, q2⟩ := hO.hex (by omega) (seeG γ.g (8 * y + k))
    obtain ⟨w2, e3, q3, q4⟩ := ih (k + 1) n w1 (rowS (seeG γ.g) y s k) (by omega) (by omega) (by show s.1 + 1 = k + 1; omega) (h.next q1 q2)
    refine ⟨w2, ?_, q3, (ouc_clc q2).tr q4⟩
    simp only [f_X6_writeRow_L30]
    rw [if_neg (show ¬ (8 : Int32) ≤ nI k from nI_ge (b := 8) (by omega) (by omega)), C.r6, ob, C.r0, ob, X6_cellNumber, x_br, oe, if_pos C.L.o, cell_nI, e1, x_br, oe, if_pos hO.o, e2, x_br, ← nI_succ k]
    exact e3
theorem M_row_L {g : WL} {y : Nat} (hy : y < 6) : ∀ (d k n : Nat) (w : xW) (F : Nat → Int32) (ar : Nat → Nat → Int32) (s : Nat × (Nat → Int32)), k + d = 8 → d < n → s.1 = k → MoAt w c F ar → RelS g (ar 1) → OM F ar s →
    ∃ w' F' ar', f_X7_writeRow_L34 n c (nI y) (nI k) w = x_ret (nI 8) w' ∧ MoAt w' c F' ar' ∧ OM F' ar' ((List.range' k d).foldl (rowS (seeG g) y) s) ∧ Fr (moc c) w w' ∧ (∀ k, k ≠ 14 → F' k = F k) ∧ ∀ k, k ≠ 7 → ar' k = ar k := by
  intro d
  induction d with
  | zero =>
    intro k n w F ar s hk hn hs M r h
    obtain ⟨n, rfl⟩ : ∃ m, n = m + 1 := ⟨n - 1, by omega⟩
    refine ⟨w, F, ar, ?_, M, h, Fr.rf, fun _ _ => rfl, fun _ _ => rfl⟩
    simp only [f_X7_writeRow_L34]
    rw [if_pos (show (8 : Int32) ≤ nI k from nI_le (a := 8) (by omega) (by omega)), M.g14, ob, h.1, show s.1 = 8 by omega]
  | succ d ih =>
    intro k n w F ar s hk hn hs M r h
    obtain ⟨n, rfl⟩ : ∃ m, n = m + 1 := ⟨n - 1, by omega⟩
    have e1 := X7_look M r (show 8 * y + k < 48 by omega)
    obtain ⟨w1, F1, ar1, e2, M1, h1, f1, a1, a2⟩ := OM.put M h (by omega) (hexV (seeG g (8 * y + k)))
    obtain ⟨w2, F2, ar2, e3, M2, h2, f2, b1, b2⟩ := ih (k + 1) n w1 F1 ar1 (rowS (seeG g) y s k) (by omega) (by omega) (by show s.1 + 1 = k + 1; omega) M1 (by rw [a2 1 (by omega)]; exact r) h1
    refine ⟨w2, F2, ar2, ?_, M2, h2, f1.tr f2, fun k hk => (b1 k hk).trans (a1 k hk), fun k hk => (b2 k hk).trans (a2 k hk)⟩
    simp only [f_X7_writeRow_L34]
    rw [if_neg (show ¬ (8 : Int32) ≤ nI k from nI_ge (b := 8) (by omega) (by omega)), if_pos M.o, cell_nI', e1, x_br, ← nI_succ k]
    unfold hexV at e2
    by_cases hx : 10 ≤ seeG g (8 * y + k)
    · rw [if_pos hx] at e2 ⊢
      rw [if_pos M.o, e2, x_br]
      exact e3
    · rw [if_neg hx] at e2 ⊢
      rw [if_pos M.o, e2, x_br]
      exact e3
/-- both outputs are s: then they stand for the same -/
theorem Rel.out {F' : Nat → Int32} {ar' : Nat → Nat → Int32} {s : Nat × (Nat → Int32)} {t : Nat → Int32} (R : Rel γ F ar) (h1 : OM F' ar' s) (h2 : ∀ i, i < s.1 → t i = x_c (s.2 i)) (hF : ∀ k, k = 5 ∨ k = 6 ∨ k = 13 ∨ k = 15 ∨ k = 16 → F' k = F k) (ha : ∀ k, k ≠ 7 → ar' k = ar k) : Rel (γ.wo s.1 t) F' ar' := by
  obtain ⟨r1, r2, r3, r4, r5, r6, r7, r8, r9, r10⟩ := R
  refine ⟨by rw [ha 1 (by omega)]; exact r1, r2.keep (hF 5 (by omega)) (ha 4 (by omega)), (hF 6 (by omega)).trans r3, by rw [ha 3 (by omega)]; exact r4, (hF 13 (by omega)).trans r5, fun i hi => by rw [ha 5 (by omega)]; exact r6 i hi, h1.1, fun i hi => ?_, (hF 15 (by omega)).trans r9, (hF 16 (by omega)).trans r10⟩
  have e : t i = x_c (ar' 7 i) := by rw [h1.2 i hi]; exact h2 i hi
  exact ⟨e, by show x_c (t i) = t i; rw [e]; exact x_cc _⟩
theorem Cls.clr (C : Cls w z γ) : ∃ w', f_X5_clear (z + 166) w = x_ret () w' ∧ CO w' z γ (0, fun _ => 0) ∧ Fr (ouc (z + 166)) w w' := by
  obtain ⟨w', e, q1, q2⟩ := X5_clear C.O
  exact ⟨w', e, ⟨⟨_, q1, fun i hi => absurd hi (Nat.not_lt_zero i)⟩, _, C.onO q1 q2⟩, q2⟩
theorem S_writeRow (C : Cls w z γ) (R : Rel γ F ar) (y : Int32) : Sbs z w (f_X6_writeRow z y w) (f_X7_writeRow (z + 168) y) hI1 F ar := by
  have e6 : (6 ≤ y) = (5 < y) := le_lt (k := 5) (by omega)
  by_cases hy : y < 0 ∨ 6 ≤ y
  · refine Rd_thr (E := IOB) (cd := 1) (b := 0) (C.rd ?_) (fun w' M => ⟨wz w' (z + 168) F 1, ar, ?_, M.sF _, wF_fr _, fun _ _ => rfl⟩) R (by decide) (by decide)
    · simp only [f_X6_writeRow]
      by_cases h0 : y < 0
      · rw [if_pos h0]; rfl
      · rw [if_neg h0, if_neg (fun h9 => Int32.not_le.mpr h9 (hy.resolve_left h0))]; rfl
    · simp only [f_X7_writeRow, X7_in, x_br]
      rw [if_neg (show ¬ (¬ y < 0 ∧ ¬ 5 < y) from fun hc => hy.elim hc.1 (fun h9 => hc.2 (e6 ▸ h9))), if_pos rfl, M.p0, ob, M.gz, ob, if_neg (by decide)]
  · have h0 : ¬ y < 0 := fun h => hy (Or.inl h)
    obtain ⟨j, hj, rfl⟩ := nI_of h0
    have hlt : j < 6 := Nat.lt_of_not_le (fun hc => hy (Or.inr (nI_le (a := 6) hc hj)))
    obtain ⟨w1, e1, c1, f1⟩ := C.clr
    obtain ⟨w2, e2, ⟨⟨t, o1, o2⟩, t', C2⟩, f2⟩ := C_row_L (z := z) (γ := γ) hlt 8 0 xfuel w1 (0, fun _ => 0) (by omega) (by unfold xfuel; omega) rfl c1
    have s8 : ((List.range' 0 8).foldl (rowS (seeG γ.g) j) (0, fun _ => 0)).1 = 8 := rowS_1 _ _ 8 0 _
    have C3 : Cls w2 z (γ.wo ((List.range' 0 8).foldl (rowS (seeG γ.g) j) (0, fun _ => 0)).1 t) := by
      have hh := C2.onO (w' := w2) o1 (Fr.rf)
      exact hh
    refine ⟨.inl (nI 8), w2, _, 0, ?_, (ouc_clc f1).tr f2, C3, fun E hE => (by cases hE), fun _ _ => rfl, fun w' M => ?_⟩
    · simp only [f_X6_writeRow]
      rw [if_neg h0, if_pos (show nI j < 6 from nI_lt (b := 6) hlt (by omega)), C.r6, ob, oe, if_pos C.O.o, e1, x_br]
      rw [nI_0] at e2
      exact e2
    · have h1 := M.sF (upd F 0 0)
      have h2 := h1.sF (upd (upd F 0 0) 14 0)
      obtain ⟨w3, F3, ar3, e3, M3, o3, f3, a1, a2⟩ := M_row_L (c := z + 168) (g := γ.g) hlt 8 0 xfuel _ _ ar (0, fun _ => 0) (by omega) (by unfold xfuel; omega) rfl h2 R.1 ⟨by unfold upd; rw [if_pos rfl]; exact nI_0.symm, fun i hi => absurd hi (Nat.not_lt_zero i)⟩
      rw [nI_0] at e3
      have u : ∀ k, k ≠ 0 → k ≠ 14 → F3 k = F k := fun k k0 k14 => by
        rw [a1 k k14]
        unfold upd
        rw [if_neg k14, if_neg k0]
      refine ⟨w3, F3, ar3, nI 8, ?_, M3, ((wF_fr _).tr (wF_fr _)).tr f3, R.out o3 o2 (fun k hk => u k (by omega) (by omega)) a2, ?_, fun v hv => (by cases hv; rfl)⟩
      · simp only [f_X7_writeRow, X7_in, x_br]
        rw [if_pos (show ¬ nI j < 0 ∧ ¬ 5 < nI j from ⟨h0, fun h9 => hy (Or.inr (e6 ▸ h9))⟩), if_neg (by decide), M.p0, ob, M.gz, ob, if_pos (by decide), h1.p14, ob]
        exact e3
      · rw [a1 0 (by omega)]
        unfold upd
        rw [if_neg (by omega), if_pos rfl]
end OU
