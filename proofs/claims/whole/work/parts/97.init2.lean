/-! ===== the other constructors ===== -/
section IN2
variable {w w' : xW} {a b c k : Nat} {fs : List Value}
theorem X1_ini (h : w.2 a = some (.inr (1, [.null, .null, .null, .null, .int 0, .null]))) (hs : w.1 = a + 1) : ∃ w', f_X1_init a w = some w' ∧ w'.1 = a + 6 ∧ (∃ f, FwAt w' a f ∧ Brd f.tb) ∧ ∀ q, q < a → w'.2 q = w.2 q := by
  obtain ⟨u1, w1, e1, g1, a1, c1, s1, b1⟩ := ap_ex (k := 0) h (by omega) (by decide) (.inl (0, 48, .inl (fun _ => 0)))
  rw [hs] at a1 c1 s1 b1
  obtain ⟨u2, w2, e2, g2, a2, c2, s2, b2⟩ := ap_ex (k := 1) a1 (by omega) (by simp) (.inl (0, 63, .inl (fun _ => 0)))
  rw [s1] at a2 c2 s2 b2
  obtain ⟨u3, w3, e3, g3, a3, c3, s3, b3⟩ := ap_ex (k := 2) a2 (by omega) (by simp) (.inl (2, 48, .inl (fun _ => 0)))
  rw [s2] at a3 c3 s3 b3
  obtain ⟨u4, w4, e4, g4, a4, c4, s4, b4⟩ := ap_ex (k := 3) a3 (by omega) (by simp) (.inl (0, 48, .inl (fun _ => 0)))
  rw [s3] at a4 c4 s4 b4
  obtain ⟨w5, e5, a5, s5, b5⟩ := put_ex (k := 4) a4 (by simp) (.int 0)
  rw [s4] at s5
  obtain ⟨u6, w6, e6, g6, a6, c6, s6, b6⟩ := ap_ex (k := 5) a5 (by omega) (by simp) (.inl (0, 48, .inl (fun _ => 0)))
  rw [s5] at a6 c6 s6 b6
  refine ⟨w6, ?_, by omega, ?_, fun q hq => ?_⟩
  · unfold f_X1_init
    rw [e1, ob, g1, ob, e2, ob, g2, ob, e3, ob, g3, ob, e4, ob, g4, ob, e5, ob, e6, ob, g6, ob]
  · exact ⟨FW.mk (fun _ => 0) (fun _ => 0) (fun _ => 0) (fun _ => 0) 0 (fun _ => 0), ⟨a6, by rw [b6 _ (by omega) (by omega), b5 _ (by omega), b4 _ (by omega) (by omega), b3 _ (by omega) (by omega), b2 _ (by omega) (by omega)]; exact c1, by rw [b6 _ (by omega) (by omega), b5 _ (by omega), b4 _ (by omega) (by omega), b3 _ (by omega) (by omega)]; exact c2, by rw [b6 _ (by omega) (by omega), b5 _ (by omega), b4 _ (by omega) (by omega)]; exact c3, by rw [b6 _ (by omega) (by omega), b5 _ (by omega)]; exact c4, c6⟩, fun _ _ => rfl, fun _ _ => rfl⟩
  · have n0 : q ≠ a := Nat.ne_of_lt hq
    have nk : ∀ k, q ≠ a + k := fun k => Nat.ne_of_lt (Nat.lt_of_lt_of_le hq (Nat.le_add_right a k))
    exact ((b6 q n0 (nk 5)).trans ((b5 q n0).trans ((b4 q n0 (nk 4)).trans ((b3 q n0 (nk 3)).trans ((b2 q n0 (nk 2)).trans (b1 q n0 (nk 1)))))))
theorem X0_ini (h : w.2 a = some (.inr (0, [.null, .int 0, .int 0, .int 0, .null, .int 0]))) (hs : w.1 = a + 1) : ∃ w', f_X0_init a w = some w' ∧ w'.1 = a + 3 ∧ CtAt w' a (fun _ => 0) 0 0 0 (fun _ => 0) 0 ∧ ∀ q, q < a → w'.2 q = w.2 q := by
  obtain ⟨u1, w1, e1, g1, a1, c1, s1, b1⟩ := ap_ex (k := 0) h (by omega) (by decide) (.inl (1, 60, .inl (fun _ => 0)))
  rw [hs] at a1 c1 s1 b1
  obtain ⟨w2, e2, a2, s2, b2⟩ := put_ex (k := 1) a1 (by simp) (.int 0)
  rw [s1] at s2
  obtain ⟨w3, e3, a3, s3, b3⟩ := put_ex (k := 2) a2 (by simp) (.int 0)
  rw [s2] at s3
  obtain ⟨w4, e4, a4, s4, b4⟩ := put_ex (k := 3) a3 (by simp) (.int 0)
  rw [s3] at s4
  obtain ⟨u5, w5, e5, g5, a5, c5, s5, b5⟩ := ap_ex (k := 4) a4 (by omega) (by simp) (.inl (0, 6, .inl (fun _ => 0)))
  rw [s4] at a5 c5 s5 b5
  obtain ⟨w6, e6, a6, s6, b6⟩ := put_ex (k := 5) a5 (by simp) (.int 0)
  rw [s5] at s6
  refine ⟨w6, ?_, by omega, ?_, fun q hq => ?_⟩
  · unfold f_X0_init
    rw [e1, ob, g1, ob, e2, ob, e3, ob, e4, ob, e5, ob, g5, ob, e6, ob]
  · exact ⟨a6, by rw [b6 _ (by omega), b5 _ (by omega) (by omega), b4 _ (by omega), b3 _ (by omega), b2 _ (by omega)]; exact c1, by rw [b6 _ (by omega)]; exact c5, by omega, by omega⟩
  · have n0 : q ≠ a := Nat.ne_of_lt hq
    have nk : ∀ k, q ≠ a + k := fun k => Nat.ne_of_lt (Nat.lt_of_lt_of_le hq (Nat.le_add_right a k))
    exact ((b6 q n0).trans ((b5 q n0 (nk 2)).trans ((b4 q n0).trans ((b3 q n0).trans ((b2 q n0).trans (b1 q n0 (nk 1)))))))
theorem X5_ini (h : w.2 a = some (.inr (5, [.null, .int 0]))) (hs : w.1 = a + 1) : ∃ w', f_X5_init a w = some w' ∧ w'.1 = a + 2 ∧ OuAt w' a 0 (fun _ => 0) ∧ ∀ q, q < a → w'.2 q = w.2 q := by
  obtain ⟨u1, w1, e1, g1, a1, c1, s1, b1⟩ := ap_ex (k := 0) h (by omega) (by decide) (.inl (1, 32, .inl (fun _ => 0)))
  rw [hs] at a1 c1 s1 b1
  obtain ⟨w2, e2, a2, s2, b2⟩ := put_ex (k := 1) a1 (by simp) (.int 0)
  rw [s1] at s2
  refine ⟨w2, ?_, by omega, ?_, fun q hq => ?_⟩
  · unfold f_X5_init
    rw [e1, ob, g1, ob, e2, ob]
  · exact ⟨a2, by rw [b2 _ (by omega)]; exact c1, by omega⟩
  · have n0 : q ≠ a := Nat.ne_of_lt hq
    have nk : ∀ k, q ≠ a + k := fun k => Nat.ne_of_lt (Nat.lt_of_lt_of_le hq (Nat.le_add_right a k))
    exact ((b2 q n0).trans (b1 q n0 (nk 1)))
theorem X7_ini (h : w.2 a = some (.inr (7, [.int 0, .null, .null, .null, .null, .int 0, .int 0, .null, .null, .null, .null, .null, .null, .int 0, .int 0, .int 0, .int 0, .int 0, .int 0, .int 0, .int 0, .int 0]))) (hs : w.1 = a + 1) : ∃ w', f_X7_init a w = some w' ∧ w'.1 = a + 11 ∧ MoAt w' a (fun k => if k = 15 ∨ k = 16 then -1 else 0) (fun _ _ => 0) ∧ ∀ q, q < a → w'.2 q = w.2 q := by
  obtain ⟨u1, w1, e1, g1, a1, c1, s1, b1⟩ := ap_ex (k := 1) h (by omega) (by decide) (.inl (0, 303, .inl (fun _ => 0)))
  rw [hs] at a1 c1 s1 b1
  obtain ⟨u2, w2, e2, g2, a2, c2, s2, b2⟩ := ap_ex (k := 2) a1 (by omega) (by simp) (.inl (0, 303, .inl (fun _ => 0)))
  rw [s1] at a2 c2 s2 b2
  obtain ⟨u3, w3, e3, g3, a3, c3, s3, b3⟩ := ap_ex (k := 3) a2 (by omega) (by simp) (.inl (0, 303, .inl (fun _ => 0)))
  rw [s2] at a3 c3 s3 b3
  obtain ⟨u4, w4, e4, g4, a4, c4, s4, b4⟩ := ap_ex (k := 4) a3 (by omega) (by simp) (.inl (0, 2424, .inl (fun _ => 0)))
  rw [s3] at a4 c4 s4 b4
  obtain ⟨u5, w5, e5, g5, a5, c5, s5, b5⟩ := ap_ex (k := 7) a4 (by omega) (by simp) (.inl (0, 60, .inl (fun _ => 0)))
  rw [s4] at a5 c5 s5 b5
  obtain ⟨u6, w6, e6, g6, a6, c6, s6, b6⟩ := ap_ex (k := 8) a5 (by omega) (by simp) (.inl (0, 420, .inl (fun _ => 0)))
  rw [s5] at a6 c6 s6 b6
  obtain ⟨u7, w7, e7, g7, a7, c7, s7, b7⟩ := ap_ex (k := 9) a6 (by omega) (by simp) (.inl (0, 40, .inl (fun _ => 0)))
  rw [s6] at a7 c7 s7 b7
  obtain ⟨u8, w8, e8, g8, a8, c8, s8, b8⟩ := ap_ex (k := 10) a7 (by omega) (by simp) (.inl (0, 48, .inl (fun _ => 0)))
  rw [s7] at a8 c8 s8 b8
  obtain ⟨u9, w9, e9, g9, a9, c9, s9, b9⟩ := ap_ex (k := 11) a8 (by omega) (by simp) (.inl (0, 48, .inl (fun _ => 0)))
  rw [s8] at a9 c9 s9 b9
  obtain ⟨u10, w10, e10, g10, a10, c10, s10, b10⟩ := ap_ex (k := 12) a9 (by omega) (by simp) (.inl (0, 50, .inl (fun _ => 0)))
  rw [s9] at a10 c10 s10 b10
  obtain ⟨w11, e11, a11, s11, b11⟩ := put_ex (k := 15) a10 (by simp) (.int (-1))
  rw [s10] at s11
  obtain ⟨w12, e12, a12, s12, b12⟩ := put_ex (k := 16) a11 (by simp) (.int (-1))
  rw [s11] at s12
  refine ⟨w12, ?_, by omega, ?_, fun q hq => ?_⟩
  · unfold f_X7_init
    rw [e1, ob, g1, ob, e2, ob, g2, ob, e3, ob, g3, ob, e4, ob, g4, ob, e5, ob, g5, ob, e6, ob, g6, ob, e7, ob, g7, ob, e8, ob, g8, ob, e9, ob, g9, ob, e10, ob, g10, ob, e11, ob, e12, ob]
  · refine ⟨a12, fun k h1 h2 => ?_⟩
    rcases (show k = 1 ∨ k = 2 ∨ k = 3 ∨ k = 4 ∨ k = 5 ∨ k = 6 ∨ k = 7 ∨ k = 8 ∨ k = 9 ∨ k = 10 by omega) with rfl | rfl | rfl | rfl | rfl | rfl | rfl | rfl | rfl | rfl
    · rw [b12 _ (by omega), b11 _ (by omega), b10 _ (by omega) (by omega), b9 _ (by omega) (by omega), b8 _ (by omega) (by omega), b7 _ (by omega) (by omega), b6 _ (by omega) (by omega), b5 _ (by omega) (by omega), b4 _ (by omega) (by omega), b3 _ (by omega) (by omega), b2 _ (by omega) (by omega)]; exact c1
    · rw [b12 _ (by omega), b11 _ (by omega), b10 _ (by omega) (by omega), b9 _ (by omega) (by omega), b8 _ (by omega) (by omega), b7 _ (by omega) (by omega), b6 _ (by omega) (by omega), b5 _ (by omega) (by omega), b4 _ (by omega) (by omega), b3 _ (by omega) (by omega)]; exact c2
    · rw [b12 _ (by omega), b11 _ (by omega), b10 _ (by omega) (by omega), b9 _ (by omega) (by omega), b8 _ (by omega) (by omega), b7 _ (by omega) (by omega), b6 _ (by omega) (by omega), b5 _ (by omega) (by omega), b4 _ (by omega) (by omega)]; exact c3
    · rw [b12 _ (by omega), b11 _ (by omega), b10 _ (by omega) (by omega), b9 _ (by omega) (by omega), b8 _ (by omega) (by omega), b7 _ (by omega) (by omega), b6 _ (by omega) (by omega), b5 _ (by omega) (by omega)]; exact c4
    · rw [b12 _ (by omega), b11 _ (by omega), b10 _ (by omega) (by omega), b9 _ (by omega) (by omega), b8 _ (by omega) (by omega), b7 _ (by omega) (by omega), b6 _ (by omega) (by omega)]; exact c5
    · rw [b12 _ (by omega), b11 _ (by omega), b10 _ (by omega) (by omega), b9 _ (by omega) (by omega), b8 _ (by omega) (by omega), b7 _ (by omega) (by omega)]; exact c6
    · rw [b12 _ (by omega), b11 _ (by omega), b10 _ (by omega) (by omega), b9 _ (by omega) (by omega), b8 _ (by omega) (by omega)]; exact c7
    · rw [b12 _ (by omega), b11 _ (by omega), b10 _ (by omega) (by omega), b9 _ (by omega) (by omega)]; exact c8
    · rw [b12 _ (by omega), b11 _ (by omega), b10 _ (by omega) (by omega)]; exact c9
    · rw [b12 _ (by omega), b11 _ (by omega)]; exact c10
  · have n0 : q ≠ a := Nat.ne_of_lt hq
    have nk : ∀ k, q ≠ a + k := fun k => Nat.ne_of_lt (Nat.lt_of_lt_of_le hq (Nat.le_add_right a k))
    exact ((b12 q n0).trans ((b11 q n0).trans ((b10 q n0 (nk 10)).trans ((b9 q n0 (nk 9)).trans ((b8 q n0 (nk 8)).trans ((b7 q n0 (nk 7)).trans ((b6 q n0 (nk 6)).trans ((b5 q n0 (nk 5)).trans ((b4 q n0 (nk 4)).trans ((b3 q n0 (nk 3)).trans ((b2 q n0 (nk 2)).trans (b1 q n0 (nk 1)))))))))))))
/-- a field's own object: made, begun, put -/
theorem kid {ini : Nat → xW → Option xW} {P : xW → Nat → Prop} {N ck : Nat} {f0 : List Value} (hini : ∀ w b, w.2 b = some (.inr (ck, f0)) → w.1 = b + 1 → ∃ w', ini b w = some w' ∧ w'.1 = b + N ∧ P w' b ∧ ∀ q, q < b → w'.2 q = w.2 q)
    (hup : ∀ w w' b, P w b → (∀ q, b ≤ q → q < b + N → w'.2 q = w.2 q) → P w' b) (h : w.2 a = some (.inr (c, fs))) (ha : a < w.1) (hk : k < fs.length) :
    ∃ w1 w2 w3, x_alloc w (.inr (ck, f0)) = some w1 ∧ ini w.1 w1 = some w2 ∧ x_put w2 a c k (.ref w.1) = some w3 ∧ w3.2 a = some (.inr (c, fs.set k (.ref w.1))) ∧ w3.1 = w.1 + N ∧ P w3 w.1 ∧ ∀ q, q ≠ a → q < w.1 → w3.2 q = w.2 q := by
  obtain ⟨w1, e1, a1, s1, b1⟩ := al_ex w (.inr (ck, f0))
  obtain ⟨w2, e2, s2, p2, b2⟩ := hini w1 w.1 a1 s1
  obtain ⟨w3, e3, a3, s3, b3⟩ := put_ex (k := k) (((b2 a ha).trans (b1 a (by omega))).trans h) hk (.ref w.1)
  exact ⟨w1, w2, w3, e1, e2, e3, a3, s3.trans s2, hup _ _ _ p2 (fun q h1 _ => b3 q (by omega)), fun q h1 h2 => ((b3 q h1).trans (b2 q h2)).trans (b1 q (by omega))⟩
theorem up4 (w w' : xW) (b : Nat) (h : LsAt w b g0) (hq : ∀ q, b ≤ q → q < b + 14 → w'.2 q = w.2 q) : LsAt w' b g0 := h.up fun q hb => hq q hb.1 hb.2
theorem up2 (w w' : xW) (b : Nat) (h : HiAt w b 0 0 (fun _ => g0)) (hq : ∀ q, b ≤ q → q < b + 128 → w'.2 q = w.2 q) : HiAt w' b 0 0 (fun _ => g0) := h.up fun q hb => hq q hb.1 hb.2
theorem up1 (w w' : xW) (b : Nat) (h : ∃ f, FwAt w b f ∧ Brd f.tb) (hq : ∀ q, b ≤ q → q < b + 6 → w'.2 q = w.2 q) : ∃ f, FwAt w' b f ∧ Brd f.tb := by
  obtain ⟨f, h1, h2⟩ := h
  exact ⟨f, h1.up fun q hb => hq q hb.1 hb.2, h2⟩
theorem up0 (w w' : xW) (b : Nat) (h : CtAt w b (fun _ => 0) 0 0 0 (fun _ => 0) 0) (hq : ∀ q, b ≤ q → q < b + 3 → w'.2 q = w.2 q) : CtAt w' b (fun _ => 0) 0 0 0 (fun _ => 0) 0 := h.up fun q hb => hq q hb.1 hb.2
theorem up5 (w w' : xW) (b : Nat) (h : OuAt w b 0 (fun _ => 0)) (hq : ∀ q, b ≤ q → q < b + 2 → w'.2 q = w.2 q) : OuAt w' b 0 (fun _ => 0) := ⟨(hq _ (by omega) (by omega)).trans h.1, (hq _ (by omega) (by omega)).trans h.2.1, h.2.2⟩
/-- the class at its start -/
def c0 : CG := CG.mk g0 0 0 (fun _ => g0) g0 (fun _ => 0) 0 0 (fun _ => 0) 0 (-1) (-1)
theorem X6_ini {z : Nat} (h : w.2 z = some (.inr (6, [.null, .null, .null, .int 0, .null, .null, .null, .int 0, .int 0]))) (hs : w.1 = z + 1) : ∃ w', f_X6_init z w = some w' ∧ w'.1 = z + 168 ∧ Cls w' z c0 ∧ ∀ q, q < z → w'.2 q = w.2 q := by
  obtain ⟨u1, v1, w1, d1, e1, g1, a1, s1, p1, b1⟩ := kid (k := 0) (fun w b => X4_ini (w := w) (b := b)) up4 h (by omega) (by decide)
  rw [hs] at a1 s1 p1 b1
  obtain ⟨u2, v2, w2, d2, e2, g2, a2, s2, p2, b2⟩ := kid (k := 1) (fun w b => X2_ini (w := w) (h := b)) up2 a1 (by omega) (by simp)
  rw [s1] at a2 s2 p2 b2
  obtain ⟨u3, v3, w3, d3, e3, g3, a3, s3, p3, b3⟩ := kid (k := 2) (fun w b => X4_ini (w := w) (b := b)) up4 a2 (by omega) (by simp)
  rw [s2] at a3 s3 p3 b3
  obtain ⟨w4, e4, a4, s4, b4⟩ := put_ex (k := 3) a3 (by simp) (.int 0)
  rw [s3] at s4
  obtain ⟨u5, v5, w5, d5, e5, g5, a5, s5, p5, b5⟩ := kid (k := 4) (fun w b => X1_ini (w := w) (a := b)) up1 a4 (by omega) (by simp)
  rw [s4] at a5 s5 p5 b5
  obtain ⟨u6, v6, w6, d6, e6, g6, a6, s6, p6, b6⟩ := kid (k := 5) (fun w b => X0_ini (w := w) (a := b)) up0 a5 (by omega) (by simp)
  rw [s5] at a6 s6 p6 b6
  obtain ⟨u7, v7, w7, d7, e7, g7, a7, s7, p7, b7⟩ := kid (k := 6) (fun w b => X5_ini (w := w) (a := b)) up5 a6 (by omega) (by simp)
  rw [s6] at a7 s7 p7 b7
  obtain ⟨w8, e8, a8, s8, b8⟩ := put_ex (k := 7) a7 (by simp) (.int (-1))
  rw [s7] at s8
  obtain ⟨w9, e9, a9, s9, b9⟩ := put_ex (k := 8) a8 (by simp) (.int (-1))
  rw [s8] at s9
  have q7 : ∀ q, q ≠ z → w9.2 q = w7.2 q := fun q hq => (b9 q hq).trans (b8 q hq)
  have q6 : ∀ q, q ≠ z → q < z + 166 → w9.2 q = w6.2 q := fun q hq h1 => (q7 q hq).trans (b7 q hq (by omega))
  have q5 : ∀ q, q ≠ z → q < z + 163 → w9.2 q = w5.2 q := fun q hq h1 => (q6 q hq (by omega)).trans (b6 q hq (by omega))
  have q3 : ∀ q, q ≠ z → q < z + 157 → w9.2 q = w3.2 q := fun q hq h1 => (q5 q hq (by omega)).trans ((b5 q hq (by omega)).trans (b4 q hq))
  have q2 : ∀ q, q ≠ z → q < z + 143 → w9.2 q = w2.2 q := fun q hq h1 => (q3 q hq (by omega)).trans (b3 q hq (by omega))
  have q1 : ∀ q, q ≠ z → q < z + 15 → w9.2 q = w1.2 q := fun q hq h1 => (q2 q hq (by omega)).trans (b2 q hq (by omega))
  refine ⟨w9, ?_, by omega, ⟨a9, up4 _ _ _ p1 (fun q h1 h2 => q1 q (by omega) (by omega)), up2 _ _ _ p2 (fun q h1 h2 => q2 q (by omega) (by omega)), up4 _ _ _ p3 (fun q h1 h2 => q3 q (by omega) (by omega)), up1 _ _ _ p5 (fun q h1 h2 => q5 q (by omega) (by omega)), ⟨0, 0, fun _ => 0, 0, up0 _ _ _ p6 (fun q h1 h2 => q6 q (by omega) (by omega))⟩, up5 _ _ _ p7 (fun q h1 h2 => q7 q (by omega))⟩, fun q hq => (q1 q (by omega) (by omega)).trans (b1 q (by omega) (by omega))⟩
  unfold f_X6_init
  rw [d1, ob, e1, ob, g1, ob, d2, ob, e2, ob, g2, ob, d3, ob, e3, ob, g3, ob, e4, ob, d5, ob, e5, ob, g5, ob, d6, ob, e6, ob, g6, ob, d7, ob, e7, ob, g7, ob, e8, ob, e9, ob]
end IN2
